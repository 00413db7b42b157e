theorem qw_388 : Cond.methodLink RX7 70 yX7_isSide ∈ tw := tw_of (by decide +kernel) rfl
theorem qw_389 : Cond.methodLink RX7 74 yX1_lay ∈ tw := tw_of (by decide +kernel) rfl
theorem qw_390 : Cond.instanceMethod yX7_field ∈ tw := tw_of (by decide +kernel) rfl
theorem qw_391 : Cond.selects RX7 yX7_field yX7_field ∈ tw := tw_of (by decide +kernel) rfl
theorem qw_392 : Cond.code yX7_field cX7_field 4 (some .int) ∈ tw := tw_of (by decide +kernel) rfl
theorem qw_393 : Cond.instanceMethod yX7_put ∈ tw := tw_of (by decide +kernel) rfl
theorem qw_394 : Cond.selects RX7 yX7_put yX7_put ∈ tw := tw_of (by decide +kernel) rfl
theorem qw_395 : Cond.code yX7_put cX7_put 5 none ∈ tw := tw_of (by decide +kernel) rfl
theorem qw_396 : Cond.instanceMethod yX7_replace ∈ tw := tw_of (by decide +kernel) rfl
theorem qw_397 : Cond.selects RX7 yX7_replace yX7_replace ∈ tw := tw_of (by decide +kernel) rfl
theorem qw_398 : Cond.code yX7_replace cX7_replace 4 (some .int) ∈ tw := tw_of (by decide +kernel) rfl
theorem qw_399 : Cond.methodLink RX7 91 yX7_put ∈ tw := tw_of (by decide +kernel) rfl
theorem qw_400 : Cond.instanceMethod yX7_ink ∈ tw := tw_of (by decide +kernel) rfl
theorem qw_401 : Cond.selects RX7 yX7_ink yX7_ink ∈ tw := tw_of (by decide +kernel) rfl
theorem qw_402 : Cond.code yX7_ink cX7_ink 5 (some .int) ∈ tw := tw_of (by decide +kernel) rfl
theorem qw_403 : Cond.methodLink RX7 95 yX1_rectangle ∈ tw := tw_of (by decide +kernel) rfl
theorem qw_404 : Cond.instanceMethod yX7_box ∈ tw := tw_of (by decide +kernel) rfl
theorem qw_405 : Cond.selects RX7 yX7_box yX7_box ∈ tw := tw_of (by decide +kernel) rfl
theorem qw_406 : Cond.code yX7_box cX7_box 7 (some .int) ∈ tw := tw_of (by decide +kernel) rfl
theorem qw_407 : Cond.fieldLink RX7 110 "WornShapes$Stamps" "steps" "[I" ∈ tw := tw_of (by decide +kernel) rfl
theorem qw_408 : Cond.instanceMethod yX7_stamp ∈ tw := tw_of (by decide +kernel) rfl
theorem qw_409 : Cond.selects RX7 yX7_stamp yX7_stamp ∈ tw := tw_of (by decide +kernel) rfl
theorem qw_410 : Cond.code yX7_stamp cX7_stamp 4 (some .int) ∈ tw := tw_of (by decide +kernel) rfl
theorem qw_411 : Cond.fieldLink RX7 118 "WornShapes$Pieces" "join" "I" ∈ tw := tw_of (by decide +kernel) rfl
theorem qw_412 : Cond.fieldLink RX7 114 "WornShapes$Stamps" "rim" "Z" ∈ tw := tw_of (by decide +kernel) rfl
theorem qw_413 : Cond.instanceMethod yX7_rule ∈ tw := tw_of (by decide +kernel) rfl
theorem qw_414 : Cond.selects RX7 yX7_rule yX7_rule ∈ tw := tw_of (by decide +kernel) rfl
theorem qw_415 : Cond.code yX7_rule cX7_rule 4 (some .int) ∈ tw := tw_of (by decide +kernel) rfl
theorem qw_416 : Cond.methodLink RX7 125 yX7_mixed ∈ tw := tw_of (by decide +kernel) rfl
theorem qw_417 : Cond.methodLink RX7 121 yX7_replace ∈ tw := tw_of (by decide +kernel) rfl
theorem qw_418 : Cond.instanceMethod yX7_mix ∈ tw := tw_of (by decide +kernel) rfl
theorem qw_419 : Cond.selects RX7 yX7_mix yX7_mix ∈ tw := tw_of (by decide +kernel) rfl
theorem qw_420 : Cond.code yX7_mix cX7_mix 5 (some .int) ∈ tw := tw_of (by decide +kernel) rfl
theorem qw_421 : Cond.instanceMethod yX7_act ∈ tw := tw_of (by decide +kernel) rfl
theorem qw_422 : Cond.selects RX7 yX7_act yX7_act ∈ tw := tw_of (by decide +kernel) rfl
theorem qw_423 : Cond.code yX7_act cX7_act 3 (some .int) ∈ tw := tw_of (by decide +kernel) rfl
theorem qw_424 : Cond.instanceMethod yX7_run ∈ tw := tw_of (by decide +kernel) rfl
theorem qw_425 : Cond.selects RX7 yX7_run yX7_run ∈ tw := tw_of (by decide +kernel) rfl
theorem qw_426 : Cond.code yX7_run cX7_run 3 (some .int) ∈ tw := tw_of (by decide +kernel) rfl
theorem qw_427 : Cond.instanceMethod yX7_keep ∈ tw := tw_of (by decide +kernel) rfl
theorem qw_428 : Cond.selects RX7 yX7_keep yX7_keep ∈ tw := tw_of (by decide +kernel) rfl
theorem qw_429 : Cond.code yX7_keep cX7_keep 3 (some .int) ∈ tw := tw_of (by decide +kernel) rfl
theorem qw_430 : Cond.methodLink RX7 172 yX3_holesOf ∈ tw := tw_of (by decide +kernel) rfl
theorem qw_431 : Cond.instanceMethod yX7_fill ∈ tw := tw_of (by decide +kernel) rfl
theorem qw_432 : Cond.selects RX7 yX7_fill yX7_fill ∈ tw := tw_of (by decide +kernel) rfl
theorem qw_433 : Cond.code yX7_fill cX7_fill 4 (some .int) ∈ tw := tw_of (by decide +kernel) rfl
theorem qw_434 : Cond.methodLink RX7 175 yX2_append ∈ tw := tw_of (by decide +kernel) rfl
theorem qw_435 : Cond.instanceMethod yX7_pair ∈ tw := tw_of (by decide +kernel) rfl
theorem qw_436 : Cond.selects RX7 yX7_pair yX7_pair ∈ tw := tw_of (by decide +kernel) rfl
theorem qw_437 : Cond.code yX7_pair cX7_pair 3 (some .int) ∈ tw := tw_of (by decide +kernel) rfl
theorem qw_438 : Cond.instanceMethod yX7_forget ∈ tw := tw_of (by decide +kernel) rfl
theorem qw_439 : Cond.selects RX7 yX7_forget yX7_forget ∈ tw := tw_of (by decide +kernel) rfl
theorem qw_440 : Cond.code yX7_forget cX7_forget 1 (some .int) ∈ tw := tw_of (by decide +kernel) rfl
theorem qw_441 : Cond.methodLink RX7 182 yX2_afterRound ∈ tw := tw_of (by decide +kernel) rfl
theorem qw_442 : Cond.instanceMethod yX7_thin ∈ tw := tw_of (by decide +kernel) rfl
theorem qw_443 : Cond.selects RX7 yX7_thin yX7_thin ∈ tw := tw_of (by decide +kernel) rfl
theorem qw_444 : Cond.code yX7_thin cX7_thin 6 (some .int) ∈ tw := tw_of (by decide +kernel) rfl
theorem qw_445 : Cond.methodLink RX7 199 yX0_findGreatest ∈ tw := tw_of (by decide +kernel) rfl
theorem qw_446 : Cond.fieldLink RX7 209 "WornShapes$Boxes" "area" "I" ∈ tw := tw_of (by decide +kernel) rfl
theorem qw_447 : Cond.fieldLink RX7 206 "WornShapes$Boxes" "last" "I" ∈ tw := tw_of (by decide +kernel) rfl
theorem qw_448 : Cond.fieldLink RX7 203 "WornShapes$Boxes" "first" "I" ∈ tw := tw_of (by decide +kernel) rfl
theorem qw_449 : Cond.instanceMethod yX7_greatest ∈ tw := tw_of (by decide +kernel) rfl
theorem qw_450 : Cond.selects RX7 yX7_greatest yX7_greatest ∈ tw := tw_of (by decide +kernel) rfl
theorem qw_451 : Cond.code yX7_greatest cX7_greatest 3 (some .int) ∈ tw := tw_of (by decide +kernel) rfl
section
variable {A : Nat → Prop} {p : Program} {l : Launch} {e : Env} {R : Room} {s : State} {m : MethodId} {args : Array Value} {below : List Frame} {meth : Method} {c : Code} {H : Heap} {locs : List Loc} {cells slots : Nat} {Q : State → Prop} {D : va_G} {oF : Nat} {oFr : Nat} {oFs : Nat} {oFc : Nat} {oFw : Nat} {oS : Nat} {oSs : Nat} {oG : Nat} {oGa : Nat} {oQ : Nat} {oQw : Nat} {oI : Nat} {oR : Nat} {oRh : Nat} {oRm : Nat} {oB : Nat} {oBw : Nat} {oX : Nat} {oXp : Nat} {oXg : Nat} {oG0 : Nat} {oGa0 : Nat} {oG1 : Nat} {oGa1 : Nat} {oG2 : Nat} {oGa2 : Nat} {oM : Nat} {oM1 : Nat} {oM2 : Nat} {oM3 : Nat} {oM4 : Nat} {oM5 : Nat} {oM6 : Nat} {oM7 : Nat} {oM8 : Nat} {oM9 : Nat} {oM10 : Nat} {oM11 : Nat} {tS : Nat} {tA : Nat} {cI : ClassId} {cJ : ClassId} {cG : ClassId} {fw : Int32} {fc : Int32} {fwh : Int64} {fbo : Int64} {fra : Nat → Int32} {fco : Nat → Int32} {fro : Nat → Int32} {fst : Nat → Int64} {srim : Int32} {sst : Nat → Int32} {gsz : Int32} {gac : Nat → Int32} {qln : Int32} {qwy : Nat → Int32} {ijn : Int32} {rsz : Int32} {rhi : Nat → Int32} {rmi : Nat → Int32} {bsz : Int32} {bfi : Int32} {bla : Int32} {bar : Int32} {bwi : Nat → Int64} {xpi : Nat → Int64} {gs0 : Int32} {gs1 : Int32} {gs2 : Int32} {ga0 : Nat → Int32} {ga1 : Nat → Int32} {ga2 : Nat → Int32} {mw : Int32} {mt : Int32} {mrim : Int32} {mjn : Int32} {mhm : Int32} {mpn : Int32} {mbm : Int32} {mgm : Int32} {mpi : Nat → Int64} {mbe : Nat → Int64} {mgr : Nat → Int64} {mle : Nat → Int64} {mst : Nat → Int32} {mam : Nat → Int32} {mac : Nat → Int32} {mro : Nat → Int32} {mhi : Nat → Int32} {mmi : Nat → Int32} {mtr : Nat → Int32}
-- X7_field
def mX7_field_L28 (n : Nat) : Nat → (Int32) → (Nat → Int64) → Option ((Nat → Int64))
  | 0, _, _ => none
  | k + 1, v3, xpi => (if (5 : Int32) ≤ v3 then some (xpi) else gd (ib v3 5) (mX7_field_L28 n k (v3 + (1 : Int32)) (vp_updL xpi v3.toNatClampNeg (0 : Int64))))
def mX7_field (n : Nat) (xpi : Nat → Int64) (fw : Int32) (fc : Int32) (fwh : Int64) (fbo : Int64) (fra : Nat → Int32) (fst : Nat → Int64) (fco : Nat → Int32) (fro : Nat → Int32) (a1 : Int32) (a2 : Int32) : Option (Int32 × (Nat → Int64) × (Int32) × (Int32) × (Int64) × (Int64) × (Nat → Int32) × (Nat → Int64) × (Nat → Int32) × (Nat → Int32)) :=
  (if (mX7_isSide a1) = 0 then (some ((-2 : Int32), xpi, fw, fc, fwh, fbo, fra, fst, fco, fro)) else (if (mX7_isSide a2) = 0 then (some ((-2 : Int32), xpi, fw, fc, fwh, fbo, fra, fst, fco, fro)) else jb8 (mX1_lay n fco fro fra fst a1 a2) (fun (y7 : Int32) (y8 : Int32) (y9 : Int64) (y10 : Int64) (y11 : Nat → Int32) (y12 : Nat → Int64) (y13 : Nat → Int32) (y14 : Nat → Int32) => jb (mX7_field_L28 n n (0 : Int32) xpi) (fun (y18 : Nat → Int64) => (some (y8, y18, y7, y8, y9, y10, y11, y12, y13, y14))))))
theorem dX7_field_0 : decode cX7_field 0 = .ok (.iload_n 1, 1) := by decide +kernel
theorem dX7_field_1 : decode cX7_field 1 = .ok (.invokestatic 70, 3) := by decide +kernel
theorem dX7_field_4 : decode cX7_field 4 = .ok (.ifCond .eq 10, 3) := by decide +kernel
theorem dX7_field_7 : decode cX7_field 7 = .ok (.iload_n 2, 1) := by decide +kernel
theorem dX7_field_8 : decode cX7_field 8 = .ok (.invokestatic 70, 3) := by decide +kernel
theorem dX7_field_11 : decode cX7_field 11 = .ok (.ifCond .ne 6, 3) := by decide +kernel
theorem dX7_field_14 : decode cX7_field 14 = .ok (.bipush (-2), 2) := by decide +kernel
theorem dX7_field_16 : decode cX7_field 16 = .ok (.ireturn, 1) := by decide +kernel
theorem dX7_field_17 : decode cX7_field 17 = .ok (.aload_n 0, 1) := by decide +kernel
theorem dX7_field_18 : decode cX7_field 18 = .ok (.getfield 14, 3) := by decide +kernel
theorem dX7_field_21 : decode cX7_field 21 = .ok (.iload_n 1, 1) := by decide +kernel
theorem dX7_field_22 : decode cX7_field 22 = .ok (.iload_n 2, 1) := by decide +kernel
theorem dX7_field_23 : decode cX7_field 23 = .ok (.invokevirtual 74, 3) := by decide +kernel
theorem dX7_field_26 : decode cX7_field 26 = .ok (.iconst 0, 1) := by decide +kernel
theorem dX7_field_27 : decode cX7_field 27 = .ok (.istore_n 3, 1) := by decide +kernel
theorem dX7_field_28 : decode cX7_field 28 = .ok (.iload_n 3, 1) := by decide +kernel
theorem dX7_field_29 : decode cX7_field 29 = .ok (.iconst 5, 1) := by decide +kernel
theorem dX7_field_30 : decode cX7_field 30 = .ok (.if_icmp .ge 16, 3) := by decide +kernel
theorem dX7_field_33 : decode cX7_field 33 = .ok (.aload_n 0, 1) := by decide +kernel
theorem dX7_field_34 : decode cX7_field 34 = .ok (.getfield 18, 3) := by decide +kernel
theorem dX7_field_37 : decode cX7_field 37 = .ok (.iload_n 3, 1) := by decide +kernel
theorem dX7_field_38 : decode cX7_field 38 = .ok (.lconst 0, 1) := by decide +kernel
theorem dX7_field_39 : decode cX7_field 39 = .ok (.lastore, 1) := by decide +kernel
theorem dX7_field_40 : decode cX7_field 40 = .ok (.iinc 3 1, 3) := by decide +kernel
theorem dX7_field_43 : decode cX7_field 43 = .ok (.goto (-15), 3) := by decide +kernel
theorem dX7_field_46 : decode cX7_field 46 = .ok (.aload_n 0, 1) := by decide +kernel
theorem dX7_field_47 : decode cX7_field 47 = .ok (.getfield 14, 3) := by decide +kernel
theorem dX7_field_50 : decode cX7_field 50 = .ok (.getfield 77, 3) := by decide +kernel
theorem dX7_field_53 : decode cX7_field 53 = .ok (.ireturn, 1) := by decide +kernel
set_option maxHeartbeats 4000000 in
set_option maxRecDepth 100000 in
theorem wX7_field_L28 {n : Nat} (hx : p.tables.exec = Jvm.exec) (hb : c.code = cX7_field) (hml : c.maxLocals = 4) (hown : s.vm.findClass RX7 = some m.cls) (hts : ∀ w ∈ tw, w.before args s = true) (hK : va_K D vwCl [(cI, .int), (cJ, .long), (cG, .object "WornShapes$Program")] s) (hA : ∀ q, s.heap.size ≤ q → A q) (hR : 2 ≤ R.frames ∧ 54 ≤ R.locals ∧ cells ≤ R.cells ∧ slots ≤ R.slots) : ∀ (k : Nat) (v3 : Int32) (xpi : Nat → Int64) (x_xpi : Nat → Int64), mX7_field_L28 n k v3 xpi = some (x_xpi) → ∀ ls : Array Slot, lv_has ls 4 [(0, .ref oX), (3, .int v3)] → ∀ (H : Heap) (locs : List Loc), va_P D vwCl (wdX cJ cG cI oX oXp oXg oG0 oGa0 oG1 oGa1 oG2 oGa2 oQ oQw oI oR oRh oRm oB oBw oS oSs oF oFr oFs oFc oFw xpi gs0 ga0 gs1 ga1 gs2 ga2 qln qwy ijn rsz rhi rmi bsz bfi bla bar bwi srim sst fw fc fwh fbo fra fst fco fro) H → va_D A (wdX cJ cG cI oX oXp oXg oG0 oGa0 oG1 oGa1 oG2 oGa2 oQ oQw oI oR oRh oRm oB oBw oS oSs oF oFr oFs oFc oFw xpi gs0 ga0 gs1 ga1 gs2 ga2 qln qwy ijn rsz rhi rmi bsz bfi bla bar bwi srim sst fw fc fwh fbo fra fst fco fro) → va_S A s.heap H locs → (∀ ls : Array Slot, lv_has ls 4 [(0, .ref oX)] → ∀ (H : Heap) (locs : List Loc), va_P D vwCl (wdX cJ cG cI oX oXp oXg oG0 oGa0 oG1 oGa1 oG2 oGa2 oQ oQw oI oR oRh oRm oB oBw oS oSs oF oFr oFs oFc oFw x_xpi gs0 ga0 gs1 ga1 gs2 ga2 qln qwy ijn rsz rhi rmi bsz bfi bla bar bwi srim sst fw fc fwh fbo fra fst fco fro) H → va_D A (wdX cJ cG cI oX oXp oXg oG0 oGa0 oG1 oGa1 oG2 oGa2 oQ oQw oI oR oRh oRm oB oBw oS oSs oF oFr oFs oFc oFw x_xpi gs0 ga0 gs1 ga1 gs2 ga2 qln qwy ijn rsz rhi rmi bsz bfi bla bar bwi srim sst fw fc fwh fbo fra fst fco fro) → va_S A s.heap H locs → W p l e R s m args below meth c H locs cells slots Q (F0 m 46 ls [])) → W p l e R s m args below meth c H locs cells slots Q (F0 m 28 ls []) := by
  intro k
  induction k with
  | zero => intro v3 xpi x_xpi hm; rw [mX7_field_L28] at hm; cases hm
  | succ k ih =>
    intro v3 xpi x_xpi hm ls hl H locs hP hD hS K0
    rw [mX7_field_L28] at hm
    refine lv_iload_n hx hb dX7_field_28 rfl (lv_at hl 1 rfl) ?_
    refine lv_iconst (v := (5 : Int32)) hx hb dX7_field_29 (by decide) ?_
    refine lv_icmp_ge (tgt := 46) hx hb dX7_field_30 (by decide) (fun c16 => ?_) (fun c16 => ?_)
    · rw [if_pos c16] at hm
      have hm := Option.some.inj hm
      have e9 : x_xpi = xpi := (congrArg (fun q => q) hm).symm
      rw [e9] at K0
      exact K0 ls (lv_sub hl [0] rfl) _ _ hP hD hS
    · rw [if_neg c16] at hm
      refine lv_aload_n hx hb dX7_field_33 rfl (lv_at hl 0 rfl) ?_
      refine va_get (D := D) (ci := 7) (v := .ref oXp) (C := RX7) (T := TX7) (N := 8) hx hb hts tnX7 hown hK hP 0 rfl rfl 1 (by decide) (hts _ qw_297) (fun _ h9 => h9) rfl dX7_field_34 ?_
      refine lv_iload_n hx hb dX7_field_37 rfl (lv_at hl 1 rfl) ?_
      refine lv_lconst (v := (0 : Int64)) hx hb dX7_field_38 (by decide) ?_
      obtain ⟨g17, hm⟩ := gd_out hm
      refine va_last hx hb hK hP hD hS 1 1 rfl rfl g17 dX7_field_39 (fun H locs hP hD hS => ?_)
      have hP : va_P D vwCl (wdX cJ cG cI oX oXp oXg oG0 oGa0 oG1 oGa1 oG2 oGa2 oQ oQw oI oR oRh oRm oB oBw oS oSs oF oFr oFs oFc oFw (vp_updL xpi v3.toNatClampNeg (0 : Int64)) gs0 ga0 gs1 ga1 gs2 ga2 qln qwy ijn rsz rhi rmi bsz bfi bla bar bwi srim sst fw fc fwh fbo fra fst fco fro) H := hP
      have hD : va_D A (wdX cJ cG cI oX oXp oXg oG0 oGa0 oG1 oGa1 oG2 oGa2 oQ oQw oI oR oRh oRm oB oBw oS oSs oF oFr oFs oFc oFw (vp_updL xpi v3.toNatClampNeg (0 : Int64)) gs0 ga0 gs1 ga1 gs2 ga2 qln qwy ijn rsz rhi rmi bsz bfi bla bar bwi srim sst fw fc fwh fbo fra fst fco fro) := hD
      refine lv_iinc (v := (v3 + (1 : Int32))) (lv' := [(3, .int (v3 + (1 : Int32))), (0, .ref oX)]) hx hb dX7_field_40 hl (k := 1) rfl (by rfl) (by decide) rfl (fun ls hl => ?_)
      refine lv_goto (tgt := 28) hx hb dX7_field_43 (by decide) ?_
      exact ih _ _ _ hm ls (lv_sub hl [1, 0] rfl) _ _ hP hD hS K0
set_option maxHeartbeats 4000000 in
set_option maxRecDepth 100000 in
theorem bX7_field {n : Nat} {a1 : Int32} {a2 : Int32} {r : Int32} {y_xpi : (Nat → Int64)} {y_fw : (Int32)} {y_fc : (Int32)} {y_fwh : (Int64)} {y_fbo : (Int64)} {y_fra : (Nat → Int32)} {y_fst : (Nat → Int64)} {y_fco : (Nat → Int32)} {y_fro : (Nat → Int32)} (hx : p.tables.exec = Jvm.exec) (hb : c.code = cX7_field) (hml : c.maxLocals = 4) (hown : s.vm.findClass RX7 = some m.cls) (hts : ∀ w ∈ tw, w.before args s = true) (hK : va_K D vwCl [(cI, .int), (cJ, .long), (cG, .object "WornShapes$Program")] s) (hA : ∀ q, s.heap.size ≤ q → A q) (hR : 2 ≤ R.frames ∧ 54 ≤ R.locals ∧ cells ≤ R.cells ∧ slots ≤ R.slots) (hm : mX7_field n xpi fw fc fwh fbo fra fst fco fro a1 a2 = some (r, y_xpi, y_fw, y_fc, y_fwh, y_fbo, y_fra, y_fst, y_fco, y_fro)) (ls : Array Slot) (hl : lv_has ls 4 [(0, .ref oX), (1, .int a1), (2, .int a2)]) (hP : va_P D vwCl (wdX cJ cG cI oX oXp oXg oG0 oGa0 oG1 oGa1 oG2 oGa2 oQ oQw oI oR oRh oRm oB oBw oS oSs oF oFr oFs oFc oFw xpi gs0 ga0 gs1 ga1 gs2 ga2 qln qwy ijn rsz rhi rmi bsz bfi bla bar bwi srim sst fw fc fwh fbo fra fst fco fro) H) (hD : va_D A (wdX cJ cG cI oX oXp oXg oG0 oGa0 oG1 oGa1 oG2 oGa2 oQ oQw oI oR oRh oRm oB oBw oS oSs oF oFr oFs oFc oFw xpi gs0 ga0 gs1 ga1 gs2 ga2 qln qwy ijn rsz rhi rmi bsz bfi bla bar bwi srim sst fw fc fwh fbo fra fst fco fro)) (hS : va_S A s.heap H locs) (K : ∀ (pc : Nat) (ls : Array Slot) (H : Heap) (locs : List Loc), decode cX7_field pc = .ok (.ireturn, 1) → va_P D vwCl (wdX cJ cG cI oX oXp oXg oG0 oGa0 oG1 oGa1 oG2 oGa2 oQ oQw oI oR oRh oRm oB oBw oS oSs oF oFr oFs oFc oFw y_xpi gs0 ga0 gs1 ga1 gs2 ga2 qln qwy ijn rsz rhi rmi bsz bfi bla bar bwi srim sst y_fw y_fc y_fwh y_fbo y_fra y_fst y_fco y_fro) H → va_D A (wdX cJ cG cI oX oXp oXg oG0 oGa0 oG1 oGa1 oG2 oGa2 oQ oQw oI oR oRh oRm oB oBw oS oSs oF oFr oFs oFc oFw y_xpi gs0 ga0 gs1 ga1 gs2 ga2 qln qwy ijn rsz rhi rmi bsz bfi bla bar bwi srim sst y_fw y_fc y_fwh y_fbo y_fra y_fst y_fco y_fro) → va_S A s.heap H locs → W p l e R s m args below meth c H locs cells slots Q (F0 m pc ls [.int r])) : W p l e R s m args below meth c H locs cells slots Q (F0 m 0 ls []) := by
  unfold mX7_field at hm
  refine lv_iload_n hx hb dX7_field_0 rfl (lv_at hl 1 rfl) ?_
  refine kX7_isSide ⟨hx, hb, hml, hown, hts⟩ qw_388 hl.1 ⟨Nat.le_trans (by decide) hR.1, Nat.le_trans (by decide) hR.2.1, hR.2.2⟩ (Nat.le_of_ble_eq_true rfl) dX7_field_1 ?_
  refine lv_if_eq (tgt := 14) hx hb dX7_field_4 (by decide) (fun c2 => ?_) (fun c2 => ?_)
  · rw [if_pos c2] at hm
    refine lv_bipush (v := (-2 : Int32)) hx hb dX7_field_14 (by decide) ?_
    have hm := Option.some.inj hm
    have e9 : r = (-2 : Int32) := (congrArg (fun q => q.1) hm).symm
    rw [e9] at K
    have e9 : y_xpi = xpi := (congrArg (fun q => q.2.1) hm).symm
    rw [e9] at K
    have e9 : y_fw = fw := (congrArg (fun q => q.2.2.1) hm).symm
    rw [e9] at K
    have e9 : y_fc = fc := (congrArg (fun q => q.2.2.2.1) hm).symm
    rw [e9] at K
    have e9 : y_fwh = fwh := (congrArg (fun q => q.2.2.2.2.1) hm).symm
    rw [e9] at K
    have e9 : y_fbo = fbo := (congrArg (fun q => q.2.2.2.2.2.1) hm).symm
    rw [e9] at K
    have e9 : y_fra = fra := (congrArg (fun q => q.2.2.2.2.2.2.1) hm).symm
    rw [e9] at K
    have e9 : y_fst = fst := (congrArg (fun q => q.2.2.2.2.2.2.2.1) hm).symm
    rw [e9] at K
    have e9 : y_fco = fco := (congrArg (fun q => q.2.2.2.2.2.2.2.2.1) hm).symm
    rw [e9] at K
    have e9 : y_fro = fro := (congrArg (fun q => q.2.2.2.2.2.2.2.2.2) hm).symm
    rw [e9] at K
    exact K 16 ls _ _ dX7_field_16 hP hD hS
  · rw [if_neg c2] at hm
    refine lv_iload_n hx hb dX7_field_7 rfl (lv_at hl 2 rfl) ?_
    refine kX7_isSide ⟨hx, hb, hml, hown, hts⟩ qw_388 hl.1 ⟨Nat.le_trans (by decide) hR.1, Nat.le_trans (by decide) hR.2.1, hR.2.2⟩ (Nat.le_of_ble_eq_true rfl) dX7_field_8 ?_
    refine lv_if_ne (tgt := 17) hx hb dX7_field_11 (by decide) (fun c4 => ?_) (fun c4 => ?_)
    · rw [if_neg c4] at hm
      refine lv_aload_n hx hb dX7_field_17 rfl (lv_at hl 0 rfl) ?_
      refine va_get (D := D) (ci := 7) (v := .ref oF) (C := RX7) (T := TX7) (N := 8) hx hb hts tnX7 hown hK hP 0 rfl rfl 0 (by decide) (hts _ qw_302) (fun _ h9 => h9) rfl dX7_field_18 ?_
      refine lv_iload_n hx hb dX7_field_21 rfl (lv_at hl 1 rfl) ?_
      refine lv_iload_n hx hb dX7_field_22 rfl (lv_at hl 2 rfl) ?_
      obtain ⟨y7, y8, y9, y10, y11, y12, y13, y14, h6, hm⟩ := jb_out8 hm
      refine kX1_lay (ws := (wdX cJ cG cI oX oXp oXg oG0 oGa0 oG1 oGa1 oG2 oGa2 oQ oQw oI oR oRh oRm oB oBw oS oSs oF oFr oFs oFc oFw xpi gs0 ga0 gs1 ga1 gs2 ga2 qln qwy ijn rsz rhi rmi bsz bfi bla bar bwi srim sst fw fc fwh fbo fra fst fco fro)) (wr := [(oX, .inr (7, [.ref oF, .ref oXp, .ref oS, .ref oXg, .ref oQ, .ref oI, .ref oR, .ref oB])), (oXp, .inl (cJ, 5, .inr (.inl xpi))), (oXg, .inl (cG, 3, .inr (.inr (.inr (.inr (va_p3 oG0 oG1 oG2)))))), (oG0, .inr (4, [.ref oS, .ref oGa0, .int gs0])), (oGa0, .inl (cI, 8, .inl ga0)), (oG1, .inr (4, [.ref oS, .ref oGa1, .int gs1])), (oGa1, .inl (cI, 8, .inl ga1)), (oG2, .inr (4, [.ref oS, .ref oGa2, .int gs2])), (oGa2, .inl (cI, 8, .inl ga2)), (oQ, .inr (5, [.ref oS, .ref oQw, .int qln])), (oQw, .inl (cI, 4, .inl qwy)), (oI, .inr (3, [.ref oF, .int ijn])), (oR, .inr (2, [.ref oF, .ref oS, .ref oRh, .ref oRm, .int rsz])), (oRh, .inl (cI, 8, .inl rhi)), (oRm, .inl (cI, 8, .inl rmi)), (oB, .inr (0, [.ref oF, .ref oBw, .int bsz, .int bfi, .int bla, .int bar])), (oBw, .inl (cJ, 210, .inr (.inl bwi))), (oS, .inr (6, [.ref oF, .ref oSs, .int srim])), (oSs, .inl (cI, 4, .inl sst))]) ⟨hx, hb, hml, hown, hts⟩ qw_389 [19, 20, 21, 22, 23] [0, 1, 2, 3, 4, 5, 6, 7, 8, 9, 10, 11, 12, 13, 14, 15, 16, 17, 18] rfl rfl (by decide) (by decide) (by decide) (hK.sub (tys' := [(cI, .int), (cJ, .long)]) [0, 1] rfl) h6 hl.1 ⟨Nat.le_trans (by decide) hR.1, Nat.le_trans (by decide) hR.2.1, hR.2.2⟩ (Nat.le_of_ble_eq_true rfl) dX7_field_23 hP hD hS hA (fun H locs hP hD hS => ?_)
      have hP : va_P D vwCl (wdX cJ cG cI oX oXp oXg oG0 oGa0 oG1 oGa1 oG2 oGa2 oQ oQw oI oR oRh oRm oB oBw oS oSs oF oFr oFs oFc oFw xpi gs0 ga0 gs1 ga1 gs2 ga2 qln qwy ijn rsz rhi rmi bsz bfi bla bar bwi srim sst y7 y8 y9 y10 y11 y12 y13 y14) H := hP.sub [0, 1, 2, 3, 4, 5, 6, 7, 8, 9, 10, 11, 12, 13, 14, 15, 16, 17, 18, 19, 20, 21, 22, 23] rfl
      have hD : va_D A (wdX cJ cG cI oX oXp oXg oG0 oGa0 oG1 oGa1 oG2 oGa2 oQ oQw oI oR oRh oRm oB oBw oS oSs oF oFr oFs oFc oFw xpi gs0 ga0 gs1 ga1 gs2 ga2 qln qwy ijn rsz rhi rmi bsz bfi bla bar bwi srim sst y7 y8 y9 y10 y11 y12 y13 y14) := hD.sub [0, 1, 2, 3, 4, 5, 6, 7, 8, 9, 10, 11, 12, 13, 14, 15, 16, 17, 18, 19, 20, 21, 22, 23] (by decide) rfl
      refine lv_iconst (v := (0 : Int32)) hx hb dX7_field_26 (by decide) ?_
      refine lv_istore_n (lv' := [(3, .int (0 : Int32)), (0, .ref oX), (1, .int a1), (2, .int a2)]) hx hb dX7_field_27 rfl hl (by decide) rfl (fun ls hl => ?_)
      obtain ⟨y18, h19, hm⟩ := jb_out hm
      refine wX7_field_L28 hx hb hml hown hts hK hA hR n _ _ _  h19 ls (lv_sub hl [1, 0] rfl) _ _ hP hD hS (fun ls hl H locs hP hD hS => ?_)
      refine lv_aload_n hx hb dX7_field_46 rfl (lv_at hl 0 rfl) ?_
      refine va_get (D := D) (ci := 7) (v := .ref oF) (C := RX7) (T := TX7) (N := 8) hx hb hts tnX7 hown hK hP 0 rfl rfl 0 (by decide) (hts _ qw_302) (fun _ h9 => h9) rfl dX7_field_47 ?_
      refine va_get (D := D) (ci := 1) (v := .int y8) (C := RX1) (T := TX1) (N := 8) hx hb hts tnX1 hown hK hP 19 rfl rfl 1 (by decide) (hts _ qw_319) (fun _ h9 => h9) rfl dX7_field_50 ?_
      have hm := Option.some.inj hm
      have e9 : r = y8 := (congrArg (fun q => q.1) hm).symm
      rw [e9] at K
      have e9 : y_xpi = y18 := (congrArg (fun q => q.2.1) hm).symm
      rw [e9] at K
      have e9 : y_fw = y7 := (congrArg (fun q => q.2.2.1) hm).symm
      rw [e9] at K
      have e9 : y_fc = y8 := (congrArg (fun q => q.2.2.2.1) hm).symm
      rw [e9] at K
      have e9 : y_fwh = y9 := (congrArg (fun q => q.2.2.2.2.1) hm).symm
      rw [e9] at K
      have e9 : y_fbo = y10 := (congrArg (fun q => q.2.2.2.2.2.1) hm).symm
      rw [e9] at K
      have e9 : y_fra = y11 := (congrArg (fun q => q.2.2.2.2.2.2.1) hm).symm
      rw [e9] at K
      have e9 : y_fst = y12 := (congrArg (fun q => q.2.2.2.2.2.2.2.1) hm).symm
      rw [e9] at K
      have e9 : y_fco = y13 := (congrArg (fun q => q.2.2.2.2.2.2.2.2.1) hm).symm
      rw [e9] at K
      have e9 : y_fro = y14 := (congrArg (fun q => q.2.2.2.2.2.2.2.2.2) hm).symm
      rw [e9] at K
      exact K 53 ls _ _ dX7_field_53 hP hD hS
    · rw [if_pos c4] at hm
      refine lv_bipush (v := (-2 : Int32)) hx hb dX7_field_14 (by decide) ?_
      have hm := Option.some.inj hm
      have e9 : r = (-2 : Int32) := (congrArg (fun q => q.1) hm).symm
      rw [e9] at K
      have e9 : y_xpi = xpi := (congrArg (fun q => q.2.1) hm).symm
      rw [e9] at K
      have e9 : y_fw = fw := (congrArg (fun q => q.2.2.1) hm).symm
      rw [e9] at K
      have e9 : y_fc = fc := (congrArg (fun q => q.2.2.2.1) hm).symm
      rw [e9] at K
      have e9 : y_fwh = fwh := (congrArg (fun q => q.2.2.2.2.1) hm).symm
      rw [e9] at K
      have e9 : y_fbo = fbo := (congrArg (fun q => q.2.2.2.2.2.1) hm).symm
      rw [e9] at K
      have e9 : y_fra = fra := (congrArg (fun q => q.2.2.2.2.2.2.1) hm).symm
      rw [e9] at K
      have e9 : y_fst = fst := (congrArg (fun q => q.2.2.2.2.2.2.2.1) hm).symm
      rw [e9] at K
      have e9 : y_fco = fco := (congrArg (fun q => q.2.2.2.2.2.2.2.2.1) hm).symm
      rw [e9] at K
      have e9 : y_fro = fro := (congrArg (fun q => q.2.2.2.2.2.2.2.2.2) hm).symm
      rw [e9] at K
      exact K 16 ls _ _ dX7_field_16 hP hD hS
set_option maxHeartbeats 4000000 in
set_option maxRecDepth 100000 in
theorem tX7_field (l : Launch) {D : va_G} (sz : Nat) {n : Nat} {a1 : Int32} {a2 : Int32} {r : Int32} {y_xpi : (Nat → Int64)} {y_fw : (Int32)} {y_fc : (Int32)} {y_fwh : (Int64)} {y_fbo : (Int64)} {y_fra : (Nat → Int32)} {y_fst : (Nat → Int64)} {y_fco : (Nat → Int32)} {y_fro : (Nat → Int32)} (hm : mX7_field n xpi fw fc fwh fbo fra fst fco fro a1 a2 = some (r, y_xpi, y_fw, y_fc, y_fwh, y_fbo, y_fra, y_fst, y_fco, y_fro)) : Met l yX7_field (.code yX7_field cX7_field 4 (some .int) :: tw) ({ frames := 2, cells := 0, slots := 0, locals := 54 } : Room) (wrP D [.ref oX, .int a1, .int a2] (wdX cJ cG cI oX oXp oXg oG0 oGa0 oG1 oGa1 oG2 oGa2 oQ oQw oI oR oRh oRm oB oBw oS oSs oF oFr oFs oFc oFw xpi gs0 ga0 gs1 ga1 gs2 ga2 qln qwy ijn rsz rhi rmi bsz bfi bla bar bwi srim sst fw fc fwh fbo fra fst fco fro) [(cI, .int), (cJ, .long), (cG, .object "WornShapes$Program")] sz) (va_Qi (fun q (_ : Unit) => q = r) (fun (_ : Unit) (t : State) => va_P D vwCl (wdX cJ cG cI oX oXp oXg oG0 oGa0 oG1 oGa1 oG2 oGa2 oQ oQw oI oR oRh oRm oB oBw oS oSs oF oFr oFs oFc oFw y_xpi gs0 ga0 gs1 ga1 gs2 ga2 qln qwy ijn rsz rhi rmi bsz bfi bla bar bwi srim sst y_fw y_fc y_fwh y_fbo y_fra y_fst y_fco y_fro) t.heap ∧ va_K D vwCl [(cI, .int), (cJ, .long), (cG, .object "WornShapes$Program")] t ∧ va_D (va_A (wdX cJ cG cI oX oXp oXg oG0 oGa0 oG1 oGa1 oG2 oGa2 oQ oQw oI oR oRh oRm oB oBw oS oSs oF oFr oFs oFc oFw xpi gs0 ga0 gs1 ga1 gs2 ga2 qln qwy ijn rsz rhi rmi bsz bfi bla bar bwi srim sst fw fc fwh fbo fra fst fco fro) sz) (wdX cJ cG cI oX oXp oXg oG0 oGa0 oG1 oGa1 oG2 oGa2 oQ oQw oI oR oRh oRm oB oBw oS oSs oF oFr oFs oFc oFw y_xpi gs0 ga0 gs1 ga1 gs2 ga2 qln qwy ijn rsz rhi rmi bsz bfi bla bar bwi srim sst y_fw y_fc y_fwh y_fbo y_fra y_fst y_fco y_fro)) (va_A (wdX cJ cG cI oX oXp oXg oG0 oGa0 oG1 oGa1 oG2 oGa2 oQ oQw oI oR oRh oRm oB oBw oS oSs oF oFr oFs oFc oFw xpi gs0 ga0 gs1 ga1 gs2 ga2 qln qwy ijn rsz rhi rmi bsz bfi bla bar bwi srim sst fw fc fwh fbo fra fst fco fro) sz)) 0 0 (va_A (wdX cJ cG cI oX oXp oXg oG0 oGa0 oG1 oGa1 oG2 oGa2 oQ oQw oI oR oRh oRm oB oBw oS oSs oF oFr oFs oFc oFw xpi gs0 ga0 gs1 ga1 gs2 ga2 qln qwy ijn rsz rhi rmi bsz bfi bla bar bwi srim sst fw fc fwh fbo fra fst fco fro) sz) := by
  refine Met.ofW (cc := cX7_field) (maxL := 4) (ret := (some .int)) (by decide) rfl ?_
  intro p e s m args below meth c s₁ B hml hv
  obtain ⟨rfl, hsz, hP, hK, hD0⟩ := hv
  have hx := B.exec
  have hb := B.bytes
  have hr := B.returns
  have hts : ∀ w ∈ tw, w.before _ s = true := fun w h => atoms_spec (ws := .code yX7_field cX7_field 4 (some .int) :: tw) B.pre w (List.mem_cons_of_mem _ h)
  have hown : s.vm.findClass RX7 = some m.cls := findClass_of_methodNamed B.named
  have hlocks := B.notSynchronized
  subst hsz
  have hD := hD0.self (sz := s.heap.size)
  have hl := lv_entry ([.ref oX, .int a1, .int a2]) (n := 4) (Nat.le_of_ble_eq_true rfl)
  rw [lg_entry_eq]
  generalize (lg_sl ([.ref oX, .int a1, .int a2]) ++ List.replicate (4 - (lg_sl ([.ref oX, .int a1, .int a2])).length) Slot.unset).toArray = ls at hl ⊢
  refine bX7_field hx hb hml hown hts hK (fun q h => Or.inr h) ⟨Nat.le_of_ble_eq_true rfl, Nat.le_of_ble_eq_true rfl, Nat.zero_le _, Nat.zero_le _⟩ hm ls hl hP hD va_S.rf (fun pc ls H locs hd hP hD hS => ?_)
  exact W.iret hx hb hr (fun t ht hW => ⟨⟨r, (), rfl, rfl, by rw [ht]; exact hP, va_K.moved hW.alike hK, hD⟩, hS.F ht⟩) hS.2.2 hd
set_option maxHeartbeats 4000000 in
set_option maxRecDepth 100000 in
theorem kX7_field {own : String} {cc : ByteArray} {nL idx pc : Nat} {ls : Array Slot} {rest : List Value} {ws wr : va_W} {n : Nat} {a1 : Int32} {a2 : Int32} {r : Int32} {y_xpi : (Nat → Int64)} {y_fw : (Int32)} {y_fc : (Int32)} {y_fwh : (Int64)} {y_fbo : (Int64)} {y_fra : (Nat → Int32)} {y_fst : (Nat → Int64)} {y_fco : (Nat → Int32)} {y_fro : (Nat → Int32)} (fx : CallFix p m c cc nL s args tw own) (hq : Cond.methodLink own idx yX7_field ∈ tw) (isC isR : List Nat) (hC : isC.map (fun i => ws[i]?) = ((wdX cJ cG cI oX oXp oXg oG0 oGa0 oG1 oGa1 oG2 oGa2 oQ oQw oI oR oRh oRm oB oBw oS oSs oF oFr oFs oFc oFw xpi gs0 ga0 gs1 ga1 gs2 ga2 qln qwy ijn rsz rhi rmi bsz bfi bla bar bwi srim sst fw fc fwh fbo fra fst fco fro) : va_W).map some) (hRr : isR.map (fun i => ws[i]?) = wr.map some) (hnC : va_nd isC = true) (hn : va_nd isR = true) (hdis : ∀ i ∈ isR, i ∉ isC) (hK : va_K D vwCl [(cI, .int), (cJ, .long), (cG, .object "WornShapes$Program")] s) (hm : mX7_field n xpi fw fc fwh fbo fra fst fco fro a1 a2 = some (r, y_xpi, y_fw, y_fc, y_fwh, y_fbo, y_fra, y_fst, y_fco, y_fro)) (hsz : ls.size = nL) (hR : 3 ≤ R.frames ∧ 77 ≤ R.locals ∧ cells ≤ R.cells ∧ slots ≤ R.slots) (hst : (rest.map fun v => v.category).sum ≤ 8) (hd : decode cc pc = .ok (.invokevirtual idx, 3)) (hP : va_P D vwCl ws H) (hD : va_D A ws) (hS : va_S A s.heap H locs) (hA : ∀ q, s.heap.size ≤ q → A q) (kk : ∀ (H : Heap) (locs : List Loc), va_P D vwCl (wr ++ (wdX cJ cG cI oX oXp oXg oG0 oGa0 oG1 oGa1 oG2 oGa2 oQ oQw oI oR oRh oRm oB oBw oS oSs oF oFr oFs oFc oFw y_xpi gs0 ga0 gs1 ga1 gs2 ga2 qln qwy ijn rsz rhi rmi bsz bfi bla bar bwi srim sst y_fw y_fc y_fwh y_fbo y_fra y_fst y_fco y_fro)) H → va_D A (wr ++ (wdX cJ cG cI oX oXp oXg oG0 oGa0 oG1 oGa1 oG2 oGa2 oQ oQw oI oR oRh oRm oB oBw oS oSs oF oFr oFs oFc oFw y_xpi gs0 ga0 gs1 ga1 gs2 ga2 qln qwy ijn rsz rhi rmi bsz bfi bla bar bwi srim sst y_fw y_fc y_fwh y_fbo y_fra y_fst y_fco y_fro)) → va_S A s.heap H locs → W p l e R s m args below meth c H locs cells slots Q (F0 m (pc + 3) ls (.int r :: rest))) : W p l e R s m args below meth c H locs cells slots Q (F0 m pc ls (.int a2 :: .int a1 :: .ref oX :: rest)) := by
  have hPc := va_P.subM hP isC hC
  have hDc := hD.sub isC hnC hC
  have hFc := va_free (wc := (wdX cJ cG cI oX oXp oXg oG0 oGa0 oG1 oGa1 oG2 oGa2 oQ oQw oI oR oRh oRm oB oBw oS oSs oF oFr oFs oFc oFw xpi gs0 ga0 gs1 ga1 gs2 ga2 qln qwy ijn rsz rhi rmi bsz bfi bla bar bwi srim sst fw fc fwh fbo fra fst fco fro)) hD hS hA isC hC
  refine va_calli (va_runV (As := [.int a1, .int a2]) (rest := rest) fx (tX7_field l H.size hm) (cwV 2 fx.2.2.2.2 (tw_V hq qw_390 qw_391 qw_288 qw_392) rfl rfl rfl (by decide +kernel) ⟨hR.1, hR.2.1⟩) ⟨wrP_bl, va_recv hK hPc (ci := 7) (q0 := 0) rfl rfl, wrP_ok hPc hK hDc⟩ rfl rfl hsz rfl (lv_room hst) hd ⟨hR.2.2.1, hR.2.2.2⟩) hS (fun q _ h => hFc q h) hFc (fun r9 u t H1 locs ht hvm hw hB hz1 hk1 hS => ?_)
  obtain ⟨hP1, hK1, hD1⟩ := hB
  rw [ht] at hP1
  rw [hw]
  obtain ⟨hP2, hD2⟩ := va_join (wr := wr) (w1 := (wdX cJ cG cI oX oXp oXg oG0 oGa0 oG1 oGa1 oG2 oGa2 oQ oQw oI oR oRh oRm oB oBw oS oSs oF oFr oFs oFc oFw y_xpi gs0 ga0 gs1 ga1 gs2 ga2 qln qwy ijn rsz rhi rmi bsz bfi bla bar bwi srim sst y_fw y_fc y_fwh y_fbo y_fra y_fst y_fco y_fro)) hP hD isC isR hC hRr hn hdis hk1 hFc hP1 hD1
  exact kk H1 locs hP2 hD2 hS
-- X7_put
def mX7_put (xpi : Nat → Int64) (a1 : Int32) (a2 : Int64) (a4 : Int32) : Option ((Nat → Int64)) :=
  (if a4 = 0 then gd (ib a1 5) (gd (ib a1 5) ((some ((vp_updL xpi a1.toNatClampNeg ((xpi a1.toNatClampNeg) &&& (a2 ^^^ (-1 : Int64)))))))) else gd (ib a1 5) (gd (ib a1 5) ((some ((vp_updL xpi a1.toNatClampNeg ((xpi a1.toNatClampNeg) ||| a2)))))))
theorem dX7_put_0 : decode cX7_put 0 = .ok (.iload 4, 2) := by decide +kernel
theorem dX7_put_2 : decode cX7_put 2 = .ok (.ifCond .eq 16, 3) := by decide +kernel
theorem dX7_put_5 : decode cX7_put 5 = .ok (.aload_n 0, 1) := by decide +kernel
theorem dX7_put_6 : decode cX7_put 6 = .ok (.getfield 18, 3) := by decide +kernel
theorem dX7_put_9 : decode cX7_put 9 = .ok (.iload_n 1, 1) := by decide +kernel
theorem dX7_put_10 : decode cX7_put 10 = .ok (.dup2, 1) := by decide +kernel
theorem dX7_put_11 : decode cX7_put 11 = .ok (.laload, 1) := by decide +kernel
theorem dX7_put_12 : decode cX7_put 12 = .ok (.lload_n 2, 1) := by decide +kernel
theorem dX7_put_13 : decode cX7_put 13 = .ok (.lor, 1) := by decide +kernel
theorem dX7_put_14 : decode cX7_put 14 = .ok (.lastore, 1) := by decide +kernel
theorem dX7_put_15 : decode cX7_put 15 = .ok (.goto 17, 3) := by decide +kernel
theorem dX7_put_18 : decode cX7_put 18 = .ok (.aload_n 0, 1) := by decide +kernel
theorem dX7_put_19 : decode cX7_put 19 = .ok (.getfield 18, 3) := by decide +kernel
theorem dX7_put_22 : decode cX7_put 22 = .ok (.iload_n 1, 1) := by decide +kernel
theorem dX7_put_23 : decode cX7_put 23 = .ok (.dup2, 1) := by decide +kernel
theorem dX7_put_24 : decode cX7_put 24 = .ok (.laload, 1) := by decide +kernel
theorem dX7_put_25 : decode cX7_put 25 = .ok (.lload_n 2, 1) := by decide +kernel
theorem dX7_put_26 : decode cX7_put 26 = .ok (.ldc2_w 105, 3) := by decide +kernel
theorem dX7_put_29 : decode cX7_put 29 = .ok (.lxor, 1) := by decide +kernel
theorem dX7_put_30 : decode cX7_put 30 = .ok (.land, 1) := by decide +kernel
theorem dX7_put_31 : decode cX7_put 31 = .ok (.lastore, 1) := by decide +kernel
theorem dX7_put_32 : decode cX7_put 32 = .ok (.return_, 1) := by decide +kernel
set_option maxHeartbeats 4000000 in
set_option maxRecDepth 100000 in
theorem bX7_put {a1 : Int32} {a2 : Int64} {a4 : Int32} {y_xpi : (Nat → Int64)} (hx : p.tables.exec = Jvm.exec) (hb : c.code = cX7_put) (hml : c.maxLocals = 5) (hown : s.vm.findClass RX7 = some m.cls) (hts : ∀ w ∈ tw, w.before args s = true) (hK : va_K D vwCl [(cI, .int), (cJ, .long), (cG, .object "WornShapes$Program")] s) (hA : ∀ q, s.heap.size ≤ q → A q) (hR : 0 ≤ R.frames ∧ 0 ≤ R.locals ∧ cells ≤ R.cells ∧ slots ≤ R.slots) (hm : mX7_put xpi a1 a2 a4 = some (y_xpi)) (ls : Array Slot) (hl : lv_has ls 5 [(0, .ref oX), (1, .int a1), (2, .long a2), (4, .int a4)]) (hP : va_P D vwCl (wdX cJ cG cI oX oXp oXg oG0 oGa0 oG1 oGa1 oG2 oGa2 oQ oQw oI oR oRh oRm oB oBw oS oSs oF oFr oFs oFc oFw xpi gs0 ga0 gs1 ga1 gs2 ga2 qln qwy ijn rsz rhi rmi bsz bfi bla bar bwi srim sst fw fc fwh fbo fra fst fco fro) H) (hD : va_D A (wdX cJ cG cI oX oXp oXg oG0 oGa0 oG1 oGa1 oG2 oGa2 oQ oQw oI oR oRh oRm oB oBw oS oSs oF oFr oFs oFc oFw xpi gs0 ga0 gs1 ga1 gs2 ga2 qln qwy ijn rsz rhi rmi bsz bfi bla bar bwi srim sst fw fc fwh fbo fra fst fco fro)) (hS : va_S A s.heap H locs) (K : ∀ (pc : Nat) (ls : Array Slot) (H : Heap) (locs : List Loc), decode cX7_put pc = .ok (.return_, 1) → va_P D vwCl (wdX cJ cG cI oX oXp oXg oG0 oGa0 oG1 oGa1 oG2 oGa2 oQ oQw oI oR oRh oRm oB oBw oS oSs oF oFr oFs oFc oFw y_xpi gs0 ga0 gs1 ga1 gs2 ga2 qln qwy ijn rsz rhi rmi bsz bfi bla bar bwi srim sst fw fc fwh fbo fra fst fco fro) H → va_D A (wdX cJ cG cI oX oXp oXg oG0 oGa0 oG1 oGa1 oG2 oGa2 oQ oQw oI oR oRh oRm oB oBw oS oSs oF oFr oFs oFc oFw y_xpi gs0 ga0 gs1 ga1 gs2 ga2 qln qwy ijn rsz rhi rmi bsz bfi bla bar bwi srim sst fw fc fwh fbo fra fst fco fro) → va_S A s.heap H locs → W p l e R s m args below meth c H locs cells slots Q (F0 m pc ls [])) : W p l e R s m args below meth c H locs cells slots Q (F0 m 0 ls []) := by
  unfold mX7_put at hm
  refine lv_iload hx hb dX7_put_0 (lv_at hl 3 rfl) ?_
  refine lv_if_eq (tgt := 18) hx hb dX7_put_2 (by decide) (fun c1 => ?_) (fun c1 => ?_)
  · rw [if_pos c1] at hm
    refine lv_aload_n hx hb dX7_put_18 rfl (lv_at hl 0 rfl) ?_
    refine va_get (D := D) (ci := 7) (v := .ref oXp) (C := RX7) (T := TX7) (N := 8) hx hb hts tnX7 hown hK hP 0 rfl rfl 1 (by decide) (hts _ qw_297) (fun _ h9 => h9) rfl dX7_put_19 ?_
    refine lv_iload_n hx hb dX7_put_22 rfl (lv_at hl 1 rfl) ?_
    refine lv_dup2_11 hx hb dX7_put_23 rfl rfl ?_
    obtain ⟨g2, hm⟩ := gd_out hm
    refine va_lald hx hb hK hP 1 1 rfl rfl g2 dX7_put_24 ?_
    refine lv_lload_n hx hb dX7_put_25 rfl (lv_at hl 2 rfl) ?_
    refine lv_ldc2 (v := (-1 : Int64)) hx hb hown (hts _ qw_294) dX7_put_26 ?_
    refine lv_lxor hx hb dX7_put_29 ?_
    refine lv_land hx hb dX7_put_30 ?_
    obtain ⟨g3, hm⟩ := gd_out hm
    refine va_last hx hb hK hP hD hS 1 1 rfl rfl g3 dX7_put_31 (fun H locs hP hD hS => ?_)
    have hP : va_P D vwCl (wdX cJ cG cI oX oXp oXg oG0 oGa0 oG1 oGa1 oG2 oGa2 oQ oQw oI oR oRh oRm oB oBw oS oSs oF oFr oFs oFc oFw (vp_updL xpi a1.toNatClampNeg ((xpi a1.toNatClampNeg) &&& (a2 ^^^ (-1 : Int64)))) gs0 ga0 gs1 ga1 gs2 ga2 qln qwy ijn rsz rhi rmi bsz bfi bla bar bwi srim sst fw fc fwh fbo fra fst fco fro) H := hP
    have hD : va_D A (wdX cJ cG cI oX oXp oXg oG0 oGa0 oG1 oGa1 oG2 oGa2 oQ oQw oI oR oRh oRm oB oBw oS oSs oF oFr oFs oFc oFw (vp_updL xpi a1.toNatClampNeg ((xpi a1.toNatClampNeg) &&& (a2 ^^^ (-1 : Int64)))) gs0 ga0 gs1 ga1 gs2 ga2 qln qwy ijn rsz rhi rmi bsz bfi bla bar bwi srim sst fw fc fwh fbo fra fst fco fro) := hD
    have hm := Option.some.inj hm
    have e9 : y_xpi = (vp_updL xpi a1.toNatClampNeg ((xpi a1.toNatClampNeg) &&& (a2 ^^^ (-1 : Int64)))) := (congrArg (fun q => q) hm).symm
    rw [e9] at K
    exact K 32 ls _ _ dX7_put_32 hP hD hS
  · rw [if_neg c1] at hm
    refine lv_aload_n hx hb dX7_put_5 rfl (lv_at hl 0 rfl) ?_
    refine va_get (D := D) (ci := 7) (v := .ref oXp) (C := RX7) (T := TX7) (N := 8) hx hb hts tnX7 hown hK hP 0 rfl rfl 1 (by decide) (hts _ qw_297) (fun _ h9 => h9) rfl dX7_put_6 ?_
    refine lv_iload_n hx hb dX7_put_9 rfl (lv_at hl 1 rfl) ?_
    refine lv_dup2_11 hx hb dX7_put_10 rfl rfl ?_
    obtain ⟨g4, hm⟩ := gd_out hm
    refine va_lald hx hb hK hP 1 1 rfl rfl g4 dX7_put_11 ?_
    refine lv_lload_n hx hb dX7_put_12 rfl (lv_at hl 2 rfl) ?_
    refine lv_lor hx hb dX7_put_13 ?_
    obtain ⟨g5, hm⟩ := gd_out hm
    refine va_last hx hb hK hP hD hS 1 1 rfl rfl g5 dX7_put_14 (fun H locs hP hD hS => ?_)
    have hP : va_P D vwCl (wdX cJ cG cI oX oXp oXg oG0 oGa0 oG1 oGa1 oG2 oGa2 oQ oQw oI oR oRh oRm oB oBw oS oSs oF oFr oFs oFc oFw (vp_updL xpi a1.toNatClampNeg ((xpi a1.toNatClampNeg) ||| a2)) gs0 ga0 gs1 ga1 gs2 ga2 qln qwy ijn rsz rhi rmi bsz bfi bla bar bwi srim sst fw fc fwh fbo fra fst fco fro) H := hP
    have hD : va_D A (wdX cJ cG cI oX oXp oXg oG0 oGa0 oG1 oGa1 oG2 oGa2 oQ oQw oI oR oRh oRm oB oBw oS oSs oF oFr oFs oFc oFw (vp_updL xpi a1.toNatClampNeg ((xpi a1.toNatClampNeg) ||| a2)) gs0 ga0 gs1 ga1 gs2 ga2 qln qwy ijn rsz rhi rmi bsz bfi bla bar bwi srim sst fw fc fwh fbo fra fst fco fro) := hD
    refine lv_goto (tgt := 32) hx hb dX7_put_15 (by decide) ?_
    have hm := Option.some.inj hm
    have e9 : y_xpi = (vp_updL xpi a1.toNatClampNeg ((xpi a1.toNatClampNeg) ||| a2)) := (congrArg (fun q => q) hm).symm
    rw [e9] at K
    exact K 32 ls _ _ dX7_put_32 hP hD hS
set_option maxHeartbeats 4000000 in
set_option maxRecDepth 100000 in
theorem tX7_put (l : Launch) {D : va_G} (sz : Nat) {a1 : Int32} {a2 : Int64} {a4 : Int32} {y_xpi : (Nat → Int64)} (hm : mX7_put xpi a1 a2 a4 = some (y_xpi)) : Met l yX7_put (.code yX7_put cX7_put 5 none :: tw) ({ frames := 0, cells := 0, slots := 0, locals := 0 } : Room) (wrP D [.ref oX, .int a1, .long a2, .int a4] (wdX cJ cG cI oX oXp oXg oG0 oGa0 oG1 oGa1 oG2 oGa2 oQ oQw oI oR oRh oRm oB oBw oS oSs oF oFr oFs oFc oFw xpi gs0 ga0 gs1 ga1 gs2 ga2 qln qwy ijn rsz rhi rmi bsz bfi bla bar bwi srim sst fw fc fwh fbo fra fst fco fro) [(cI, .int), (cJ, .long), (cG, .object "WornShapes$Program")] sz) (va_Qv (fun (_ : Unit) => True) (fun (_ : Unit) (t : State) => va_P D vwCl (wdX cJ cG cI oX oXp oXg oG0 oGa0 oG1 oGa1 oG2 oGa2 oQ oQw oI oR oRh oRm oB oBw oS oSs oF oFr oFs oFc oFw y_xpi gs0 ga0 gs1 ga1 gs2 ga2 qln qwy ijn rsz rhi rmi bsz bfi bla bar bwi srim sst fw fc fwh fbo fra fst fco fro) t.heap ∧ va_K D vwCl [(cI, .int), (cJ, .long), (cG, .object "WornShapes$Program")] t ∧ va_D (va_A (wdX cJ cG cI oX oXp oXg oG0 oGa0 oG1 oGa1 oG2 oGa2 oQ oQw oI oR oRh oRm oB oBw oS oSs oF oFr oFs oFc oFw xpi gs0 ga0 gs1 ga1 gs2 ga2 qln qwy ijn rsz rhi rmi bsz bfi bla bar bwi srim sst fw fc fwh fbo fra fst fco fro) sz) (wdX cJ cG cI oX oXp oXg oG0 oGa0 oG1 oGa1 oG2 oGa2 oQ oQw oI oR oRh oRm oB oBw oS oSs oF oFr oFs oFc oFw y_xpi gs0 ga0 gs1 ga1 gs2 ga2 qln qwy ijn rsz rhi rmi bsz bfi bla bar bwi srim sst fw fc fwh fbo fra fst fco fro)) (va_A (wdX cJ cG cI oX oXp oXg oG0 oGa0 oG1 oGa1 oG2 oGa2 oQ oQw oI oR oRh oRm oB oBw oS oSs oF oFr oFs oFc oFw xpi gs0 ga0 gs1 ga1 gs2 ga2 qln qwy ijn rsz rhi rmi bsz bfi bla bar bwi srim sst fw fc fwh fbo fra fst fco fro) sz)) 0 0 (va_A (wdX cJ cG cI oX oXp oXg oG0 oGa0 oG1 oGa1 oG2 oGa2 oQ oQw oI oR oRh oRm oB oBw oS oSs oF oFr oFs oFc oFw xpi gs0 ga0 gs1 ga1 gs2 ga2 qln qwy ijn rsz rhi rmi bsz bfi bla bar bwi srim sst fw fc fwh fbo fra fst fco fro) sz) := by
  refine Met.ofW (cc := cX7_put) (maxL := 5) (ret := none) (by decide) rfl ?_
  intro p e s m args below meth c s₁ B hml hv
  obtain ⟨rfl, hsz, hP, hK, hD0⟩ := hv
  have hx := B.exec
  have hb := B.bytes
  have hr := B.returns
  have hts : ∀ w ∈ tw, w.before _ s = true := fun w h => atoms_spec (ws := .code yX7_put cX7_put 5 none :: tw) B.pre w (List.mem_cons_of_mem _ h)
  have hown : s.vm.findClass RX7 = some m.cls := findClass_of_methodNamed B.named
  have hlocks := B.notSynchronized
  subst hsz
  have hD := hD0.self (sz := s.heap.size)
  have hl := lv_entry ([.ref oX, .int a1, .long a2, .int a4]) (n := 5) (Nat.le_of_ble_eq_true rfl)
  rw [lg_entry_eq]
  generalize (lg_sl ([.ref oX, .int a1, .long a2, .int a4]) ++ List.replicate (5 - (lg_sl ([.ref oX, .int a1, .long a2, .int a4])).length) Slot.unset).toArray = ls at hl ⊢
  refine bX7_put hx hb hml hown hts hK (fun q h => Or.inr h) ⟨Nat.le_of_ble_eq_true rfl, Nat.le_of_ble_eq_true rfl, Nat.zero_le _, Nat.zero_le _⟩ hm ls hl hP hD va_S.rf (fun pc ls H locs hd hP hD hS => ?_)
  exact W.vret hx hb hr (fun t ht hW => ⟨⟨(), rfl, trivial, by rw [ht]; exact hP, va_K.moved hW.alike hK, hD⟩, hS.F ht⟩) hS.2.2 hd
set_option maxHeartbeats 4000000 in
set_option maxRecDepth 100000 in
theorem kX7_put {own : String} {cc : ByteArray} {nL idx pc : Nat} {ls : Array Slot} {rest : List Value} {ws wr : va_W} {a1 : Int32} {a2 : Int64} {a4 : Int32} {y_xpi : (Nat → Int64)} (fx : CallFix p m c cc nL s args tw own) (hq : Cond.methodLink own idx yX7_put ∈ tw) (isC isR : List Nat) (hC : isC.map (fun i => ws[i]?) = ((wdX cJ cG cI oX oXp oXg oG0 oGa0 oG1 oGa1 oG2 oGa2 oQ oQw oI oR oRh oRm oB oBw oS oSs oF oFr oFs oFc oFw xpi gs0 ga0 gs1 ga1 gs2 ga2 qln qwy ijn rsz rhi rmi bsz bfi bla bar bwi srim sst fw fc fwh fbo fra fst fco fro) : va_W).map some) (hRr : isR.map (fun i => ws[i]?) = wr.map some) (hnC : va_nd isC = true) (hn : va_nd isR = true) (hdis : ∀ i ∈ isR, i ∉ isC) (hK : va_K D vwCl [(cI, .int), (cJ, .long), (cG, .object "WornShapes$Program")] s) (hm : mX7_put xpi a1 a2 a4 = some (y_xpi)) (hsz : ls.size = nL) (hR : 1 ≤ R.frames ∧ 24 ≤ R.locals ∧ cells ≤ R.cells ∧ slots ≤ R.slots) (hst : (rest.map fun v => v.category).sum ≤ 8) (hd : decode cc pc = .ok (.invokevirtual idx, 3)) (hP : va_P D vwCl ws H) (hD : va_D A ws) (hS : va_S A s.heap H locs) (hA : ∀ q, s.heap.size ≤ q → A q) (kk : ∀ (H : Heap) (locs : List Loc), va_P D vwCl (wr ++ (wdX cJ cG cI oX oXp oXg oG0 oGa0 oG1 oGa1 oG2 oGa2 oQ oQw oI oR oRh oRm oB oBw oS oSs oF oFr oFs oFc oFw y_xpi gs0 ga0 gs1 ga1 gs2 ga2 qln qwy ijn rsz rhi rmi bsz bfi bla bar bwi srim sst fw fc fwh fbo fra fst fco fro)) H → va_D A (wr ++ (wdX cJ cG cI oX oXp oXg oG0 oGa0 oG1 oGa1 oG2 oGa2 oQ oQw oI oR oRh oRm oB oBw oS oSs oF oFr oFs oFc oFw y_xpi gs0 ga0 gs1 ga1 gs2 ga2 qln qwy ijn rsz rhi rmi bsz bfi bla bar bwi srim sst fw fc fwh fbo fra fst fco fro)) → va_S A s.heap H locs → W p l e R s m args below meth c H locs cells slots Q (F0 m (pc + 3) ls (rest))) : W p l e R s m args below meth c H locs cells slots Q (F0 m pc ls (.int a4 :: .long a2 :: .int a1 :: .ref oX :: rest)) := by
  have hPc := va_P.subM hP isC hC
  have hDc := hD.sub isC hnC hC
  have hFc := va_free (wc := (wdX cJ cG cI oX oXp oXg oG0 oGa0 oG1 oGa1 oG2 oGa2 oQ oQw oI oR oRh oRm oB oBw oS oSs oF oFr oFs oFc oFw xpi gs0 ga0 gs1 ga1 gs2 ga2 qln qwy ijn rsz rhi rmi bsz bfi bla bar bwi srim sst fw fc fwh fbo fra fst fco fro)) hD hS hA isC hC
  refine va_callv (va_runV (As := [.int a1, .long a2, .int a4]) (rest := rest) fx (tX7_put l H.size hm) (cwV 3 fx.2.2.2.2 (tw_V hq qw_393 qw_394 qw_288 qw_395) rfl rfl rfl (by decide +kernel) ⟨hR.1, hR.2.1⟩) ⟨wrP_bl, va_recv hK hPc (ci := 7) (q0 := 0) rfl rfl, wrP_ok hPc hK hDc⟩ rfl rfl hsz rfl (lv_room hst) hd ⟨hR.2.2.1, hR.2.2.2⟩) hS (fun q _ h => hFc q h) hFc (fun u t H1 locs ht hvm hw hB hz1 hk1 hS => ?_)
  obtain ⟨hP1, hK1, hD1⟩ := hB
  rw [ht] at hP1
  obtain ⟨hP2, hD2⟩ := va_join (wr := wr) (w1 := (wdX cJ cG cI oX oXp oXg oG0 oGa0 oG1 oGa1 oG2 oGa2 oQ oQw oI oR oRh oRm oB oBw oS oSs oF oFr oFs oFc oFw y_xpi gs0 ga0 gs1 ga1 gs2 ga2 qln qwy ijn rsz rhi rmi bsz bfi bla bar bwi srim sst fw fc fwh fbo fra fst fco fro)) hP hD isC isR hC hRr hn hdis hk1 hFc hP1 hD1
  exact kk H1 locs hP2 hD2 hS
-- X7_replace
def mX7_replace (xpi : Nat → Int64) (a1 : Int32) (a2 : Int64) : Option (Int32 × (Nat → Int64)) :=
  gd (ib a1 5) ((some ((mJ13_bitCount_95d88 a2), (vp_updL xpi a1.toNatClampNeg a2))))
theorem dX7_replace_0 : decode cX7_replace 0 = .ok (.aload_n 0, 1) := by decide +kernel
theorem dX7_replace_1 : decode cX7_replace 1 = .ok (.getfield 18, 3) := by decide +kernel
theorem dX7_replace_4 : decode cX7_replace 4 = .ok (.iload_n 1, 1) := by decide +kernel
theorem dX7_replace_5 : decode cX7_replace 5 = .ok (.lload_n 2, 1) := by decide +kernel
theorem dX7_replace_6 : decode cX7_replace 6 = .ok (.lastore, 1) := by decide +kernel
theorem dX7_replace_7 : decode cX7_replace 7 = .ok (.lload_n 2, 1) := by decide +kernel
theorem dX7_replace_8 : decode cX7_replace 8 = .ok (.invokestatic 99, 3) := by decide +kernel
theorem dX7_replace_11 : decode cX7_replace 11 = .ok (.ireturn, 1) := by decide +kernel
set_option maxHeartbeats 4000000 in
set_option maxRecDepth 100000 in
theorem bX7_replace {a1 : Int32} {a2 : Int64} {r : Int32} {y_xpi : (Nat → Int64)} (hx : p.tables.exec = Jvm.exec) (hb : c.code = cX7_replace) (hml : c.maxLocals = 4) (hown : s.vm.findClass RX7 = some m.cls) (hts : ∀ w ∈ tw, w.before args s = true) (hK : va_K D vwCl [(cI, .int), (cJ, .long), (cG, .object "WornShapes$Program")] s) (hA : ∀ q, s.heap.size ≤ q → A q) (hR : 1 ≤ R.frames ∧ 21 ≤ R.locals ∧ cells ≤ R.cells ∧ slots ≤ R.slots) (hm : mX7_replace xpi a1 a2 = some (r, y_xpi)) (ls : Array Slot) (hl : lv_has ls 4 [(0, .ref oX), (1, .int a1), (2, .long a2)]) (hP : va_P D vwCl (wdX cJ cG cI oX oXp oXg oG0 oGa0 oG1 oGa1 oG2 oGa2 oQ oQw oI oR oRh oRm oB oBw oS oSs oF oFr oFs oFc oFw xpi gs0 ga0 gs1 ga1 gs2 ga2 qln qwy ijn rsz rhi rmi bsz bfi bla bar bwi srim sst fw fc fwh fbo fra fst fco fro) H) (hD : va_D A (wdX cJ cG cI oX oXp oXg oG0 oGa0 oG1 oGa1 oG2 oGa2 oQ oQw oI oR oRh oRm oB oBw oS oSs oF oFr oFs oFc oFw xpi gs0 ga0 gs1 ga1 gs2 ga2 qln qwy ijn rsz rhi rmi bsz bfi bla bar bwi srim sst fw fc fwh fbo fra fst fco fro)) (hS : va_S A s.heap H locs) (K : ∀ (pc : Nat) (ls : Array Slot) (H : Heap) (locs : List Loc), decode cX7_replace pc = .ok (.ireturn, 1) → va_P D vwCl (wdX cJ cG cI oX oXp oXg oG0 oGa0 oG1 oGa1 oG2 oGa2 oQ oQw oI oR oRh oRm oB oBw oS oSs oF oFr oFs oFc oFw y_xpi gs0 ga0 gs1 ga1 gs2 ga2 qln qwy ijn rsz rhi rmi bsz bfi bla bar bwi srim sst fw fc fwh fbo fra fst fco fro) H → va_D A (wdX cJ cG cI oX oXp oXg oG0 oGa0 oG1 oGa1 oG2 oGa2 oQ oQw oI oR oRh oRm oB oBw oS oSs oF oFr oFs oFc oFw y_xpi gs0 ga0 gs1 ga1 gs2 ga2 qln qwy ijn rsz rhi rmi bsz bfi bla bar bwi srim sst fw fc fwh fbo fra fst fco fro) → va_S A s.heap H locs → W p l e R s m args below meth c H locs cells slots Q (F0 m pc ls [.int r])) : W p l e R s m args below meth c H locs cells slots Q (F0 m 0 ls []) := by
  unfold mX7_replace at hm
  refine lv_aload_n hx hb dX7_replace_0 rfl (lv_at hl 0 rfl) ?_
  refine va_get (D := D) (ci := 7) (v := .ref oXp) (C := RX7) (T := TX7) (N := 8) hx hb hts tnX7 hown hK hP 0 rfl rfl 1 (by decide) (hts _ qw_297) (fun _ h9 => h9) rfl dX7_replace_1 ?_
  refine lv_iload_n hx hb dX7_replace_4 rfl (lv_at hl 1 rfl) ?_
  refine lv_lload_n hx hb dX7_replace_5 rfl (lv_at hl 2 rfl) ?_
  obtain ⟨g1, hm⟩ := gd_out hm
  refine va_last hx hb hK hP hD hS 1 1 rfl rfl g1 dX7_replace_6 (fun H locs hP hD hS => ?_)
  have hP : va_P D vwCl (wdX cJ cG cI oX oXp oXg oG0 oGa0 oG1 oGa1 oG2 oGa2 oQ oQw oI oR oRh oRm oB oBw oS oSs oF oFr oFs oFc oFw (vp_updL xpi a1.toNatClampNeg a2) gs0 ga0 gs1 ga1 gs2 ga2 qln qwy ijn rsz rhi rmi bsz bfi bla bar bwi srim sst fw fc fwh fbo fra fst fco fro) H := hP
  have hD : va_D A (wdX cJ cG cI oX oXp oXg oG0 oGa0 oG1 oGa1 oG2 oGa2 oQ oQw oI oR oRh oRm oB oBw oS oSs oF oFr oFs oFc oFw (vp_updL xpi a1.toNatClampNeg a2) gs0 ga0 gs1 ga1 gs2 ga2 qln qwy ijn rsz rhi rmi bsz bfi bla bar bwi srim sst fw fc fwh fbo fra fst fco fro) := hD
  refine lv_lload_n hx hb dX7_replace_7 rfl (lv_at hl 2 rfl) ?_
  refine kJ13_bitCount_95d88 ⟨hx, hb, hml, hown, hts⟩ qw_314 hl.1 ⟨Nat.le_trans (by decide) hR.1, Nat.le_trans (by decide) hR.2.1, hR.2.2⟩ (Nat.le_of_ble_eq_true rfl) dX7_replace_8 ?_
  have hm := Option.some.inj hm
  have e9 : r = (mJ13_bitCount_95d88 a2) := (congrArg (fun q => q.1) hm).symm
  rw [e9] at K
  have e9 : y_xpi = (vp_updL xpi a1.toNatClampNeg a2) := (congrArg (fun q => q.2) hm).symm
  rw [e9] at K
  exact K 11 ls _ _ dX7_replace_11 hP hD hS
set_option maxHeartbeats 4000000 in
set_option maxRecDepth 100000 in
theorem tX7_replace (l : Launch) {D : va_G} (sz : Nat) {a1 : Int32} {a2 : Int64} {r : Int32} {y_xpi : (Nat → Int64)} (hm : mX7_replace xpi a1 a2 = some (r, y_xpi)) : Met l yX7_replace (.code yX7_replace cX7_replace 4 (some .int) :: tw) ({ frames := 1, cells := 0, slots := 0, locals := 21 } : Room) (wrP D [.ref oX, .int a1, .long a2] (wdX cJ cG cI oX oXp oXg oG0 oGa0 oG1 oGa1 oG2 oGa2 oQ oQw oI oR oRh oRm oB oBw oS oSs oF oFr oFs oFc oFw xpi gs0 ga0 gs1 ga1 gs2 ga2 qln qwy ijn rsz rhi rmi bsz bfi bla bar bwi srim sst fw fc fwh fbo fra fst fco fro) [(cI, .int), (cJ, .long), (cG, .object "WornShapes$Program")] sz) (va_Qi (fun q (_ : Unit) => q = r) (fun (_ : Unit) (t : State) => va_P D vwCl (wdX cJ cG cI oX oXp oXg oG0 oGa0 oG1 oGa1 oG2 oGa2 oQ oQw oI oR oRh oRm oB oBw oS oSs oF oFr oFs oFc oFw y_xpi gs0 ga0 gs1 ga1 gs2 ga2 qln qwy ijn rsz rhi rmi bsz bfi bla bar bwi srim sst fw fc fwh fbo fra fst fco fro) t.heap ∧ va_K D vwCl [(cI, .int), (cJ, .long), (cG, .object "WornShapes$Program")] t ∧ va_D (va_A (wdX cJ cG cI oX oXp oXg oG0 oGa0 oG1 oGa1 oG2 oGa2 oQ oQw oI oR oRh oRm oB oBw oS oSs oF oFr oFs oFc oFw xpi gs0 ga0 gs1 ga1 gs2 ga2 qln qwy ijn rsz rhi rmi bsz bfi bla bar bwi srim sst fw fc fwh fbo fra fst fco fro) sz) (wdX cJ cG cI oX oXp oXg oG0 oGa0 oG1 oGa1 oG2 oGa2 oQ oQw oI oR oRh oRm oB oBw oS oSs oF oFr oFs oFc oFw y_xpi gs0 ga0 gs1 ga1 gs2 ga2 qln qwy ijn rsz rhi rmi bsz bfi bla bar bwi srim sst fw fc fwh fbo fra fst fco fro)) (va_A (wdX cJ cG cI oX oXp oXg oG0 oGa0 oG1 oGa1 oG2 oGa2 oQ oQw oI oR oRh oRm oB oBw oS oSs oF oFr oFs oFc oFw xpi gs0 ga0 gs1 ga1 gs2 ga2 qln qwy ijn rsz rhi rmi bsz bfi bla bar bwi srim sst fw fc fwh fbo fra fst fco fro) sz)) 0 0 (va_A (wdX cJ cG cI oX oXp oXg oG0 oGa0 oG1 oGa1 oG2 oGa2 oQ oQw oI oR oRh oRm oB oBw oS oSs oF oFr oFs oFc oFw xpi gs0 ga0 gs1 ga1 gs2 ga2 qln qwy ijn rsz rhi rmi bsz bfi bla bar bwi srim sst fw fc fwh fbo fra fst fco fro) sz) := by
  refine Met.ofW (cc := cX7_replace) (maxL := 4) (ret := (some .int)) (by decide) rfl ?_
  intro p e s m args below meth c s₁ B hml hv
  obtain ⟨rfl, hsz, hP, hK, hD0⟩ := hv
  have hx := B.exec
  have hb := B.bytes
  have hr := B.returns
  have hts : ∀ w ∈ tw, w.before _ s = true := fun w h => atoms_spec (ws := .code yX7_replace cX7_replace 4 (some .int) :: tw) B.pre w (List.mem_cons_of_mem _ h)
  have hown : s.vm.findClass RX7 = some m.cls := findClass_of_methodNamed B.named
  have hlocks := B.notSynchronized
  subst hsz
  have hD := hD0.self (sz := s.heap.size)
  have hl := lv_entry ([.ref oX, .int a1, .long a2]) (n := 4) (Nat.le_of_ble_eq_true rfl)
  rw [lg_entry_eq]
  generalize (lg_sl ([.ref oX, .int a1, .long a2]) ++ List.replicate (4 - (lg_sl ([.ref oX, .int a1, .long a2])).length) Slot.unset).toArray = ls at hl ⊢
  refine bX7_replace hx hb hml hown hts hK (fun q h => Or.inr h) ⟨Nat.le_of_ble_eq_true rfl, Nat.le_of_ble_eq_true rfl, Nat.zero_le _, Nat.zero_le _⟩ hm ls hl hP hD va_S.rf (fun pc ls H locs hd hP hD hS => ?_)
  exact W.iret hx hb hr (fun t ht hW => ⟨⟨r, (), rfl, rfl, by rw [ht]; exact hP, va_K.moved hW.alike hK, hD⟩, hS.F ht⟩) hS.2.2 hd
set_option maxHeartbeats 4000000 in
set_option maxRecDepth 100000 in
theorem kX7_replace {own : String} {cc : ByteArray} {nL idx pc : Nat} {ls : Array Slot} {rest : List Value} {ws wr : va_W} {a1 : Int32} {a2 : Int64} {r : Int32} {y_xpi : (Nat → Int64)} (fx : CallFix p m c cc nL s args tw own) (hq : Cond.methodLink own idx yX7_replace ∈ tw) (isC isR : List Nat) (hC : isC.map (fun i => ws[i]?) = ((wdX cJ cG cI oX oXp oXg oG0 oGa0 oG1 oGa1 oG2 oGa2 oQ oQw oI oR oRh oRm oB oBw oS oSs oF oFr oFs oFc oFw xpi gs0 ga0 gs1 ga1 gs2 ga2 qln qwy ijn rsz rhi rmi bsz bfi bla bar bwi srim sst fw fc fwh fbo fra fst fco fro) : va_W).map some) (hRr : isR.map (fun i => ws[i]?) = wr.map some) (hnC : va_nd isC = true) (hn : va_nd isR = true) (hdis : ∀ i ∈ isR, i ∉ isC) (hK : va_K D vwCl [(cI, .int), (cJ, .long), (cG, .object "WornShapes$Program")] s) (hm : mX7_replace xpi a1 a2 = some (r, y_xpi)) (hsz : ls.size = nL) (hR : 2 ≤ R.frames ∧ 44 ≤ R.locals ∧ cells ≤ R.cells ∧ slots ≤ R.slots) (hst : (rest.map fun v => v.category).sum ≤ 8) (hd : decode cc pc = .ok (.invokevirtual idx, 3)) (hP : va_P D vwCl ws H) (hD : va_D A ws) (hS : va_S A s.heap H locs) (hA : ∀ q, s.heap.size ≤ q → A q) (kk : ∀ (H : Heap) (locs : List Loc), va_P D vwCl (wr ++ (wdX cJ cG cI oX oXp oXg oG0 oGa0 oG1 oGa1 oG2 oGa2 oQ oQw oI oR oRh oRm oB oBw oS oSs oF oFr oFs oFc oFw y_xpi gs0 ga0 gs1 ga1 gs2 ga2 qln qwy ijn rsz rhi rmi bsz bfi bla bar bwi srim sst fw fc fwh fbo fra fst fco fro)) H → va_D A (wr ++ (wdX cJ cG cI oX oXp oXg oG0 oGa0 oG1 oGa1 oG2 oGa2 oQ oQw oI oR oRh oRm oB oBw oS oSs oF oFr oFs oFc oFw y_xpi gs0 ga0 gs1 ga1 gs2 ga2 qln qwy ijn rsz rhi rmi bsz bfi bla bar bwi srim sst fw fc fwh fbo fra fst fco fro)) → va_S A s.heap H locs → W p l e R s m args below meth c H locs cells slots Q (F0 m (pc + 3) ls (.int r :: rest))) : W p l e R s m args below meth c H locs cells slots Q (F0 m pc ls (.long a2 :: .int a1 :: .ref oX :: rest)) := by
  have hPc := va_P.subM hP isC hC
  have hDc := hD.sub isC hnC hC
  have hFc := va_free (wc := (wdX cJ cG cI oX oXp oXg oG0 oGa0 oG1 oGa1 oG2 oGa2 oQ oQw oI oR oRh oRm oB oBw oS oSs oF oFr oFs oFc oFw xpi gs0 ga0 gs1 ga1 gs2 ga2 qln qwy ijn rsz rhi rmi bsz bfi bla bar bwi srim sst fw fc fwh fbo fra fst fco fro)) hD hS hA isC hC
  refine va_calli (va_runV (As := [.int a1, .long a2]) (rest := rest) fx (tX7_replace l H.size hm) (cwV 2 fx.2.2.2.2 (tw_V hq qw_396 qw_397 qw_288 qw_398) rfl rfl rfl (by decide +kernel) ⟨hR.1, hR.2.1⟩) ⟨wrP_bl, va_recv hK hPc (ci := 7) (q0 := 0) rfl rfl, wrP_ok hPc hK hDc⟩ rfl rfl hsz rfl (lv_room hst) hd ⟨hR.2.2.1, hR.2.2.2⟩) hS (fun q _ h => hFc q h) hFc (fun r9 u t H1 locs ht hvm hw hB hz1 hk1 hS => ?_)
  obtain ⟨hP1, hK1, hD1⟩ := hB
  rw [ht] at hP1
  rw [hw]
  obtain ⟨hP2, hD2⟩ := va_join (wr := wr) (w1 := (wdX cJ cG cI oX oXp oXg oG0 oGa0 oG1 oGa1 oG2 oGa2 oQ oQw oI oR oRh oRm oB oBw oS oSs oF oFr oFs oFc oFw y_xpi gs0 ga0 gs1 ga1 gs2 ga2 qln qwy ijn rsz rhi rmi bsz bfi bla bar bwi srim sst fw fc fwh fbo fra fst fco fro)) hP hD isC isR hC hRr hn hdis hk1 hFc hP1 hD1
  exact kk H1 locs hP2 hD2 hS
-- X7_ink
def mX7_ink (xpi : Nat → Int64) (fc : Int32) (a1 : Int32) (a2 : Int32) (a3 : Int32) : Option (Int32 × (Nat → Int64)) :=
  (if (mX7_isPicture a1) = 0 then (some ((-1 : Int32), xpi)) else (if (mX1_isCell fc a2) = 0 then (some ((-1 : Int32), xpi)) else jb (mX7_bitAt xpi a1 a2) (fun (r5 : Int32) => jb (mX7_put xpi a1 (jlshl (1 : Int64) a2) a3) (fun (y9 : Nat → Int64) => (some (r5, y9))))))
theorem dX7_ink_0 : decode cX7_ink 0 = .ok (.iload_n 1, 1) := by decide +kernel
theorem dX7_ink_1 : decode cX7_ink 1 = .ok (.invokestatic 81, 3) := by decide +kernel
theorem dX7_ink_4 : decode cX7_ink 4 = .ok (.ifCond .eq 14, 3) := by decide +kernel
theorem dX7_ink_7 : decode cX7_ink 7 = .ok (.aload_n 0, 1) := by decide +kernel
theorem dX7_ink_8 : decode cX7_ink 8 = .ok (.getfield 14, 3) := by decide +kernel
theorem dX7_ink_11 : decode cX7_ink 11 = .ok (.iload_n 2, 1) := by decide +kernel
theorem dX7_ink_12 : decode cX7_ink 12 = .ok (.invokevirtual 84, 3) := by decide +kernel
theorem dX7_ink_15 : decode cX7_ink 15 = .ok (.ifCond .ne 5, 3) := by decide +kernel
theorem dX7_ink_18 : decode cX7_ink 18 = .ok (.iconst (-1), 1) := by decide +kernel
theorem dX7_ink_19 : decode cX7_ink 19 = .ok (.ireturn, 1) := by decide +kernel
theorem dX7_ink_20 : decode cX7_ink 20 = .ok (.aload_n 0, 1) := by decide +kernel
theorem dX7_ink_21 : decode cX7_ink 21 = .ok (.iload_n 1, 1) := by decide +kernel
theorem dX7_ink_22 : decode cX7_ink 22 = .ok (.iload_n 2, 1) := by decide +kernel
theorem dX7_ink_23 : decode cX7_ink 23 = .ok (.invokevirtual 87, 3) := by decide +kernel
theorem dX7_ink_26 : decode cX7_ink 26 = .ok (.istore 4, 2) := by decide +kernel
theorem dX7_ink_28 : decode cX7_ink 28 = .ok (.aload_n 0, 1) := by decide +kernel
theorem dX7_ink_29 : decode cX7_ink 29 = .ok (.iload_n 1, 1) := by decide +kernel
theorem dX7_ink_30 : decode cX7_ink 30 = .ok (.lconst 1, 1) := by decide +kernel
theorem dX7_ink_31 : decode cX7_ink 31 = .ok (.iload_n 2, 1) := by decide +kernel
theorem dX7_ink_32 : decode cX7_ink 32 = .ok (.lshl, 1) := by decide +kernel
theorem dX7_ink_33 : decode cX7_ink 33 = .ok (.iload_n 3, 1) := by decide +kernel
theorem dX7_ink_34 : decode cX7_ink 34 = .ok (.invokevirtual 91, 3) := by decide +kernel
theorem dX7_ink_37 : decode cX7_ink 37 = .ok (.iload 4, 2) := by decide +kernel
theorem dX7_ink_39 : decode cX7_ink 39 = .ok (.ireturn, 1) := by decide +kernel
set_option maxHeartbeats 4000000 in
set_option maxRecDepth 100000 in
theorem bX7_ink {a1 : Int32} {a2 : Int32} {a3 : Int32} {r : Int32} {y_xpi : (Nat → Int64)} (hx : p.tables.exec = Jvm.exec) (hb : c.code = cX7_ink) (hml : c.maxLocals = 5) (hown : s.vm.findClass RX7 = some m.cls) (hts : ∀ w ∈ tw, w.before args s = true) (hK : va_K D vwCl [(cI, .int), (cJ, .long), (cG, .object "WornShapes$Program")] s) (hA : ∀ q, s.heap.size ≤ q → A q) (hR : 1 ≤ R.frames ∧ 24 ≤ R.locals ∧ cells ≤ R.cells ∧ slots ≤ R.slots) (hm : mX7_ink xpi fc a1 a2 a3 = some (r, y_xpi)) (ls : Array Slot) (hl : lv_has ls 5 [(0, .ref oX), (1, .int a1), (2, .int a2), (3, .int a3)]) (hP : va_P D vwCl (wdX cJ cG cI oX oXp oXg oG0 oGa0 oG1 oGa1 oG2 oGa2 oQ oQw oI oR oRh oRm oB oBw oS oSs oF oFr oFs oFc oFw xpi gs0 ga0 gs1 ga1 gs2 ga2 qln qwy ijn rsz rhi rmi bsz bfi bla bar bwi srim sst fw fc fwh fbo fra fst fco fro) H) (hD : va_D A (wdX cJ cG cI oX oXp oXg oG0 oGa0 oG1 oGa1 oG2 oGa2 oQ oQw oI oR oRh oRm oB oBw oS oSs oF oFr oFs oFc oFw xpi gs0 ga0 gs1 ga1 gs2 ga2 qln qwy ijn rsz rhi rmi bsz bfi bla bar bwi srim sst fw fc fwh fbo fra fst fco fro)) (hS : va_S A s.heap H locs) (K : ∀ (pc : Nat) (ls : Array Slot) (H : Heap) (locs : List Loc), decode cX7_ink pc = .ok (.ireturn, 1) → va_P D vwCl (wdX cJ cG cI oX oXp oXg oG0 oGa0 oG1 oGa1 oG2 oGa2 oQ oQw oI oR oRh oRm oB oBw oS oSs oF oFr oFs oFc oFw y_xpi gs0 ga0 gs1 ga1 gs2 ga2 qln qwy ijn rsz rhi rmi bsz bfi bla bar bwi srim sst fw fc fwh fbo fra fst fco fro) H → va_D A (wdX cJ cG cI oX oXp oXg oG0 oGa0 oG1 oGa1 oG2 oGa2 oQ oQw oI oR oRh oRm oB oBw oS oSs oF oFr oFs oFc oFw y_xpi gs0 ga0 gs1 ga1 gs2 ga2 qln qwy ijn rsz rhi rmi bsz bfi bla bar bwi srim sst fw fc fwh fbo fra fst fco fro) → va_S A s.heap H locs → W p l e R s m args below meth c H locs cells slots Q (F0 m pc ls [.int r])) : W p l e R s m args below meth c H locs cells slots Q (F0 m 0 ls []) := by
  unfold mX7_ink at hm
  refine lv_iload_n hx hb dX7_ink_0 rfl (lv_at hl 1 rfl) ?_
  refine kX7_isPicture ⟨hx, hb, hml, hown, hts⟩ qw_301 hl.1 ⟨Nat.le_trans (by decide) hR.1, Nat.le_trans (by decide) hR.2.1, hR.2.2⟩ (Nat.le_of_ble_eq_true rfl) dX7_ink_1 ?_
  refine lv_if_eq (tgt := 18) hx hb dX7_ink_4 (by decide) (fun c2 => ?_) (fun c2 => ?_)
  · rw [if_pos c2] at hm
    refine lv_iconst (v := (-1 : Int32)) hx hb dX7_ink_18 (by decide) ?_
    have hm := Option.some.inj hm
    have e9 : r = (-1 : Int32) := (congrArg (fun q => q.1) hm).symm
    rw [e9] at K
    have e9 : y_xpi = xpi := (congrArg (fun q => q.2) hm).symm
    rw [e9] at K
    exact K 19 ls _ _ dX7_ink_19 hP hD hS
  · rw [if_neg c2] at hm
    refine lv_aload_n hx hb dX7_ink_7 rfl (lv_at hl 0 rfl) ?_
    refine va_get (D := D) (ci := 7) (v := .ref oF) (C := RX7) (T := TX7) (N := 8) hx hb hts tnX7 hown hK hP 0 rfl rfl 0 (by decide) (hts _ qw_302) (fun _ h9 => h9) rfl dX7_ink_8 ?_
    refine lv_iload_n hx hb dX7_ink_11 rfl (lv_at hl 2 rfl) ?_
    refine kX1_isCell ⟨hx, hb, hml, hown, hts⟩ qw_303 (hP.sub (ws' := (wdF cI cJ oF oFr oFs oFc oFw fw fc fwh fbo fra fst fco fro)) [19, 20, 21, 22, 23] rfl) (hK.sub (tys' := [(cI, .int), (cJ, .long)]) [0, 1] rfl) hl.1 ⟨Nat.le_trans (by decide) hR.1, Nat.le_trans (by decide) hR.2.1, hR.2.2⟩ (Nat.le_of_ble_eq_true rfl) dX7_ink_12 ?_
    refine lv_if_ne (tgt := 20) hx hb dX7_ink_15 (by decide) (fun c4 => ?_) (fun c4 => ?_)
    · rw [if_neg c4] at hm
      refine lv_aload_n hx hb dX7_ink_20 rfl (lv_at hl 0 rfl) ?_
      refine lv_iload_n hx hb dX7_ink_21 rfl (lv_at hl 1 rfl) ?_
      refine lv_iload_n hx hb dX7_ink_22 rfl (lv_at hl 2 rfl) ?_
      obtain ⟨r5, h6, hm⟩ := jb_out hm
      refine kX7_bitAt ⟨hx, hb, hml, hown, hts⟩ qw_304 hP hK h6 hl.1 ⟨Nat.le_trans (by decide) hR.1, Nat.le_trans (by decide) hR.2.1, hR.2.2⟩ (Nat.le_of_ble_eq_true rfl) dX7_ink_23 ?_
      refine lv_istore (lv' := [(4, .int r5), (0, .ref oX), (1, .int a1), (2, .int a2), (3, .int a3)]) hx hb dX7_ink_26 hl (by decide) rfl (fun ls hl => ?_)
      refine lv_aload_n hx hb dX7_ink_28 rfl (lv_at hl 1 rfl) ?_
      refine lv_iload_n hx hb dX7_ink_29 rfl (lv_at hl 2 rfl) ?_
      refine lv_lconst (v := (1 : Int64)) hx hb dX7_ink_30 (by decide) ?_
      refine lv_iload_n hx hb dX7_ink_31 rfl (lv_at hl 3 rfl) ?_
      refine lv_lshl (v := (jlshl (1 : Int64) a2)) hx hb dX7_ink_32 rfl ?_
      refine lv_iload_n hx hb dX7_ink_33 rfl (lv_at hl 4 rfl) ?_
      obtain ⟨y9, h8, hm⟩ := jb_out hm
      refine kX7_put (ws := (wdX cJ cG cI oX oXp oXg oG0 oGa0 oG1 oGa1 oG2 oGa2 oQ oQw oI oR oRh oRm oB oBw oS oSs oF oFr oFs oFc oFw xpi gs0 ga0 gs1 ga1 gs2 ga2 qln qwy ijn rsz rhi rmi bsz bfi bla bar bwi srim sst fw fc fwh fbo fra fst fco fro)) (wr := []) ⟨hx, hb, hml, hown, hts⟩ qw_399 [0, 1, 2, 3, 4, 5, 6, 7, 8, 9, 10, 11, 12, 13, 14, 15, 16, 17, 18, 19, 20, 21, 22, 23] [] rfl rfl (by decide) (by decide) (by decide) hK h8 hl.1 ⟨Nat.le_trans (by decide) hR.1, Nat.le_trans (by decide) hR.2.1, hR.2.2⟩ (Nat.le_of_ble_eq_true rfl) dX7_ink_34 hP hD hS hA (fun H locs hP hD hS => ?_)
      have hP : va_P D vwCl (wdX cJ cG cI oX oXp oXg oG0 oGa0 oG1 oGa1 oG2 oGa2 oQ oQw oI oR oRh oRm oB oBw oS oSs oF oFr oFs oFc oFw y9 gs0 ga0 gs1 ga1 gs2 ga2 qln qwy ijn rsz rhi rmi bsz bfi bla bar bwi srim sst fw fc fwh fbo fra fst fco fro) H := hP.sub [0, 1, 2, 3, 4, 5, 6, 7, 8, 9, 10, 11, 12, 13, 14, 15, 16, 17, 18, 19, 20, 21, 22, 23] rfl
      have hD : va_D A (wdX cJ cG cI oX oXp oXg oG0 oGa0 oG1 oGa1 oG2 oGa2 oQ oQw oI oR oRh oRm oB oBw oS oSs oF oFr oFs oFc oFw y9 gs0 ga0 gs1 ga1 gs2 ga2 qln qwy ijn rsz rhi rmi bsz bfi bla bar bwi srim sst fw fc fwh fbo fra fst fco fro) := hD.sub [0, 1, 2, 3, 4, 5, 6, 7, 8, 9, 10, 11, 12, 13, 14, 15, 16, 17, 18, 19, 20, 21, 22, 23] (by decide) rfl
      refine lv_iload hx hb dX7_ink_37 (lv_at hl 0 rfl) ?_
      have hm := Option.some.inj hm
      have e9 : r = r5 := (congrArg (fun q => q.1) hm).symm
      rw [e9] at K
      have e9 : y_xpi = y9 := (congrArg (fun q => q.2) hm).symm
      rw [e9] at K
      exact K 39 ls _ _ dX7_ink_39 hP hD hS
    · rw [if_pos c4] at hm
      refine lv_iconst (v := (-1 : Int32)) hx hb dX7_ink_18 (by decide) ?_
      have hm := Option.some.inj hm
      have e9 : r = (-1 : Int32) := (congrArg (fun q => q.1) hm).symm
      rw [e9] at K
      have e9 : y_xpi = xpi := (congrArg (fun q => q.2) hm).symm
      rw [e9] at K
      exact K 19 ls _ _ dX7_ink_19 hP hD hS
set_option maxHeartbeats 4000000 in
set_option maxRecDepth 100000 in
theorem tX7_ink (l : Launch) {D : va_G} (sz : Nat) {a1 : Int32} {a2 : Int32} {a3 : Int32} {r : Int32} {y_xpi : (Nat → Int64)} (hm : mX7_ink xpi fc a1 a2 a3 = some (r, y_xpi)) : Met l yX7_ink (.code yX7_ink cX7_ink 5 (some .int) :: tw) ({ frames := 1, cells := 0, slots := 0, locals := 24 } : Room) (wrP D [.ref oX, .int a1, .int a2, .int a3] (wdX cJ cG cI oX oXp oXg oG0 oGa0 oG1 oGa1 oG2 oGa2 oQ oQw oI oR oRh oRm oB oBw oS oSs oF oFr oFs oFc oFw xpi gs0 ga0 gs1 ga1 gs2 ga2 qln qwy ijn rsz rhi rmi bsz bfi bla bar bwi srim sst fw fc fwh fbo fra fst fco fro) [(cI, .int), (cJ, .long), (cG, .object "WornShapes$Program")] sz) (va_Qi (fun q (_ : Unit) => q = r) (fun (_ : Unit) (t : State) => va_P D vwCl (wdX cJ cG cI oX oXp oXg oG0 oGa0 oG1 oGa1 oG2 oGa2 oQ oQw oI oR oRh oRm oB oBw oS oSs oF oFr oFs oFc oFw y_xpi gs0 ga0 gs1 ga1 gs2 ga2 qln qwy ijn rsz rhi rmi bsz bfi bla bar bwi srim sst fw fc fwh fbo fra fst fco fro) t.heap ∧ va_K D vwCl [(cI, .int), (cJ, .long), (cG, .object "WornShapes$Program")] t ∧ va_D (va_A (wdX cJ cG cI oX oXp oXg oG0 oGa0 oG1 oGa1 oG2 oGa2 oQ oQw oI oR oRh oRm oB oBw oS oSs oF oFr oFs oFc oFw xpi gs0 ga0 gs1 ga1 gs2 ga2 qln qwy ijn rsz rhi rmi bsz bfi bla bar bwi srim sst fw fc fwh fbo fra fst fco fro) sz) (wdX cJ cG cI oX oXp oXg oG0 oGa0 oG1 oGa1 oG2 oGa2 oQ oQw oI oR oRh oRm oB oBw oS oSs oF oFr oFs oFc oFw y_xpi gs0 ga0 gs1 ga1 gs2 ga2 qln qwy ijn rsz rhi rmi bsz bfi bla bar bwi srim sst fw fc fwh fbo fra fst fco fro)) (va_A (wdX cJ cG cI oX oXp oXg oG0 oGa0 oG1 oGa1 oG2 oGa2 oQ oQw oI oR oRh oRm oB oBw oS oSs oF oFr oFs oFc oFw xpi gs0 ga0 gs1 ga1 gs2 ga2 qln qwy ijn rsz rhi rmi bsz bfi bla bar bwi srim sst fw fc fwh fbo fra fst fco fro) sz)) 0 0 (va_A (wdX cJ cG cI oX oXp oXg oG0 oGa0 oG1 oGa1 oG2 oGa2 oQ oQw oI oR oRh oRm oB oBw oS oSs oF oFr oFs oFc oFw xpi gs0 ga0 gs1 ga1 gs2 ga2 qln qwy ijn rsz rhi rmi bsz bfi bla bar bwi srim sst fw fc fwh fbo fra fst fco fro) sz) := by
  refine Met.ofW (cc := cX7_ink) (maxL := 5) (ret := (some .int)) (by decide) rfl ?_
  intro p e s m args below meth c s₁ B hml hv
  obtain ⟨rfl, hsz, hP, hK, hD0⟩ := hv
  have hx := B.exec
  have hb := B.bytes
  have hr := B.returns
  have hts : ∀ w ∈ tw, w.before _ s = true := fun w h => atoms_spec (ws := .code yX7_ink cX7_ink 5 (some .int) :: tw) B.pre w (List.mem_cons_of_mem _ h)
  have hown : s.vm.findClass RX7 = some m.cls := findClass_of_methodNamed B.named
  have hlocks := B.notSynchronized
  subst hsz
  have hD := hD0.self (sz := s.heap.size)
  have hl := lv_entry ([.ref oX, .int a1, .int a2, .int a3]) (n := 5) (Nat.le_of_ble_eq_true rfl)
  rw [lg_entry_eq]
  generalize (lg_sl ([.ref oX, .int a1, .int a2, .int a3]) ++ List.replicate (5 - (lg_sl ([.ref oX, .int a1, .int a2, .int a3])).length) Slot.unset).toArray = ls at hl ⊢
  refine bX7_ink hx hb hml hown hts hK (fun q h => Or.inr h) ⟨Nat.le_of_ble_eq_true rfl, Nat.le_of_ble_eq_true rfl, Nat.zero_le _, Nat.zero_le _⟩ hm ls hl hP hD va_S.rf (fun pc ls H locs hd hP hD hS => ?_)
  exact W.iret hx hb hr (fun t ht hW => ⟨⟨r, (), rfl, rfl, by rw [ht]; exact hP, va_K.moved hW.alike hK, hD⟩, hS.F ht⟩) hS.2.2 hd
set_option maxHeartbeats 4000000 in
set_option maxRecDepth 100000 in
theorem kX7_ink {own : String} {cc : ByteArray} {nL idx pc : Nat} {ls : Array Slot} {rest : List Value} {ws wr : va_W} {a1 : Int32} {a2 : Int32} {a3 : Int32} {r : Int32} {y_xpi : (Nat → Int64)} (fx : CallFix p m c cc nL s args tw own) (hq : Cond.methodLink own idx yX7_ink ∈ tw) (isC isR : List Nat) (hC : isC.map (fun i => ws[i]?) = ((wdX cJ cG cI oX oXp oXg oG0 oGa0 oG1 oGa1 oG2 oGa2 oQ oQw oI oR oRh oRm oB oBw oS oSs oF oFr oFs oFc oFw xpi gs0 ga0 gs1 ga1 gs2 ga2 qln qwy ijn rsz rhi rmi bsz bfi bla bar bwi srim sst fw fc fwh fbo fra fst fco fro) : va_W).map some) (hRr : isR.map (fun i => ws[i]?) = wr.map some) (hnC : va_nd isC = true) (hn : va_nd isR = true) (hdis : ∀ i ∈ isR, i ∉ isC) (hK : va_K D vwCl [(cI, .int), (cJ, .long), (cG, .object "WornShapes$Program")] s) (hm : mX7_ink xpi fc a1 a2 a3 = some (r, y_xpi)) (hsz : ls.size = nL) (hR : 2 ≤ R.frames ∧ 48 ≤ R.locals ∧ cells ≤ R.cells ∧ slots ≤ R.slots) (hst : (rest.map fun v => v.category).sum ≤ 8) (hd : decode cc pc = .ok (.invokevirtual idx, 3)) (hP : va_P D vwCl ws H) (hD : va_D A ws) (hS : va_S A s.heap H locs) (hA : ∀ q, s.heap.size ≤ q → A q) (kk : ∀ (H : Heap) (locs : List Loc), va_P D vwCl (wr ++ (wdX cJ cG cI oX oXp oXg oG0 oGa0 oG1 oGa1 oG2 oGa2 oQ oQw oI oR oRh oRm oB oBw oS oSs oF oFr oFs oFc oFw y_xpi gs0 ga0 gs1 ga1 gs2 ga2 qln qwy ijn rsz rhi rmi bsz bfi bla bar bwi srim sst fw fc fwh fbo fra fst fco fro)) H → va_D A (wr ++ (wdX cJ cG cI oX oXp oXg oG0 oGa0 oG1 oGa1 oG2 oGa2 oQ oQw oI oR oRh oRm oB oBw oS oSs oF oFr oFs oFc oFw y_xpi gs0 ga0 gs1 ga1 gs2 ga2 qln qwy ijn rsz rhi rmi bsz bfi bla bar bwi srim sst fw fc fwh fbo fra fst fco fro)) → va_S A s.heap H locs → W p l e R s m args below meth c H locs cells slots Q (F0 m (pc + 3) ls (.int r :: rest))) : W p l e R s m args below meth c H locs cells slots Q (F0 m pc ls (.int a3 :: .int a2 :: .int a1 :: .ref oX :: rest)) := by
  have hPc := va_P.subM hP isC hC
  have hDc := hD.sub isC hnC hC
  have hFc := va_free (wc := (wdX cJ cG cI oX oXp oXg oG0 oGa0 oG1 oGa1 oG2 oGa2 oQ oQw oI oR oRh oRm oB oBw oS oSs oF oFr oFs oFc oFw xpi gs0 ga0 gs1 ga1 gs2 ga2 qln qwy ijn rsz rhi rmi bsz bfi bla bar bwi srim sst fw fc fwh fbo fra fst fco fro)) hD hS hA isC hC
  refine va_calli (va_runV (As := [.int a1, .int a2, .int a3]) (rest := rest) fx (tX7_ink l H.size hm) (cwV 3 fx.2.2.2.2 (tw_V hq qw_400 qw_401 qw_288 qw_402) rfl rfl rfl (by decide +kernel) ⟨hR.1, hR.2.1⟩) ⟨wrP_bl, va_recv hK hPc (ci := 7) (q0 := 0) rfl rfl, wrP_ok hPc hK hDc⟩ rfl rfl hsz rfl (lv_room hst) hd ⟨hR.2.2.1, hR.2.2.2⟩) hS (fun q _ h => hFc q h) hFc (fun r9 u t H1 locs ht hvm hw hB hz1 hk1 hS => ?_)
  obtain ⟨hP1, hK1, hD1⟩ := hB
  rw [ht] at hP1
  rw [hw]
  obtain ⟨hP2, hD2⟩ := va_join (wr := wr) (w1 := (wdX cJ cG cI oX oXp oXg oG0 oGa0 oG1 oGa1 oG2 oGa2 oQ oQw oI oR oRh oRm oB oBw oS oSs oF oFr oFs oFc oFw y_xpi gs0 ga0 gs1 ga1 gs2 ga2 qln qwy ijn rsz rhi rmi bsz bfi bla bar bwi srim sst fw fc fwh fbo fra fst fco fro)) hP hD isC isR hC hRr hn hdis hk1 hFc hP1 hD1
  exact kk H1 locs hP2 hD2 hS
-- X7_box
def mX7_box (n : Nat) (xpi : Nat → Int64) (fc : Int32) (fco : Nat → Int32) (fro : Nat → Int32) (fw : Int32) (a1 : Int32) (a2 : Int32) (a3 : Int32) (a4 : Int32) : Option (Int32 × (Nat → Int64)) :=
  (if (mX7_isPicture a1) = 0 then (some ((-1 : Int32), xpi)) else (if (mX1_isCell fc a2) = 0 then (some ((-1 : Int32), xpi)) else (if (mX1_isCell fc a3) = 0 then (some ((-1 : Int32), xpi)) else jb (mX1_rectangle n fco fro fw a2 a3) (fun (r7 : Int64) => (if r7 = (0 : Int64) then (some ((-2 : Int32), xpi)) else jb (mX7_put xpi a1 r7 a4) (fun (y12 : Nat → Int64) => gd (ib a1 5) ((some ((mJ13_bitCount_95d88 (y12 a1.toNatClampNeg)), y12)))))))))
theorem dX7_box_0 : decode cX7_box 0 = .ok (.iload_n 1, 1) := by decide +kernel
theorem dX7_box_1 : decode cX7_box 1 = .ok (.invokestatic 81, 3) := by decide +kernel
theorem dX7_box_4 : decode cX7_box 4 = .ok (.ifCond .eq 25, 3) := by decide +kernel
theorem dX7_box_7 : decode cX7_box 7 = .ok (.aload_n 0, 1) := by decide +kernel
theorem dX7_box_8 : decode cX7_box 8 = .ok (.getfield 14, 3) := by decide +kernel
theorem dX7_box_11 : decode cX7_box 11 = .ok (.iload_n 2, 1) := by decide +kernel
theorem dX7_box_12 : decode cX7_box 12 = .ok (.invokevirtual 84, 3) := by decide +kernel
theorem dX7_box_15 : decode cX7_box 15 = .ok (.ifCond .eq 14, 3) := by decide +kernel
theorem dX7_box_18 : decode cX7_box 18 = .ok (.aload_n 0, 1) := by decide +kernel
theorem dX7_box_19 : decode cX7_box 19 = .ok (.getfield 14, 3) := by decide +kernel
theorem dX7_box_22 : decode cX7_box 22 = .ok (.iload_n 3, 1) := by decide +kernel
theorem dX7_box_23 : decode cX7_box 23 = .ok (.invokevirtual 84, 3) := by decide +kernel
theorem dX7_box_26 : decode cX7_box 26 = .ok (.ifCond .ne 5, 3) := by decide +kernel
theorem dX7_box_29 : decode cX7_box 29 = .ok (.iconst (-1), 1) := by decide +kernel
theorem dX7_box_30 : decode cX7_box 30 = .ok (.ireturn, 1) := by decide +kernel
theorem dX7_box_31 : decode cX7_box 31 = .ok (.aload_n 0, 1) := by decide +kernel
theorem dX7_box_32 : decode cX7_box 32 = .ok (.getfield 14, 3) := by decide +kernel
theorem dX7_box_35 : decode cX7_box 35 = .ok (.iload_n 2, 1) := by decide +kernel
theorem dX7_box_36 : decode cX7_box 36 = .ok (.iload_n 3, 1) := by decide +kernel
theorem dX7_box_37 : decode cX7_box 37 = .ok (.invokevirtual 95, 3) := by decide +kernel
theorem dX7_box_40 : decode cX7_box 40 = .ok (.lstore 5, 2) := by decide +kernel
theorem dX7_box_42 : decode cX7_box 42 = .ok (.lload 5, 2) := by decide +kernel
theorem dX7_box_44 : decode cX7_box 44 = .ok (.lconst 0, 1) := by decide +kernel
theorem dX7_box_45 : decode cX7_box 45 = .ok (.lcmp, 1) := by decide +kernel
theorem dX7_box_46 : decode cX7_box 46 = .ok (.ifCond .ne 6, 3) := by decide +kernel
theorem dX7_box_49 : decode cX7_box 49 = .ok (.bipush (-2), 2) := by decide +kernel
theorem dX7_box_51 : decode cX7_box 51 = .ok (.ireturn, 1) := by decide +kernel
theorem dX7_box_52 : decode cX7_box 52 = .ok (.aload_n 0, 1) := by decide +kernel
theorem dX7_box_53 : decode cX7_box 53 = .ok (.iload_n 1, 1) := by decide +kernel
theorem dX7_box_54 : decode cX7_box 54 = .ok (.lload 5, 2) := by decide +kernel
theorem dX7_box_56 : decode cX7_box 56 = .ok (.iload 4, 2) := by decide +kernel
theorem dX7_box_58 : decode cX7_box 58 = .ok (.invokevirtual 91, 3) := by decide +kernel
theorem dX7_box_61 : decode cX7_box 61 = .ok (.aload_n 0, 1) := by decide +kernel
theorem dX7_box_62 : decode cX7_box 62 = .ok (.getfield 18, 3) := by decide +kernel
theorem dX7_box_65 : decode cX7_box 65 = .ok (.iload_n 1, 1) := by decide +kernel
theorem dX7_box_66 : decode cX7_box 66 = .ok (.laload, 1) := by decide +kernel
theorem dX7_box_67 : decode cX7_box 67 = .ok (.invokestatic 99, 3) := by decide +kernel
theorem dX7_box_70 : decode cX7_box 70 = .ok (.ireturn, 1) := by decide +kernel
set_option maxHeartbeats 4000000 in
set_option maxRecDepth 100000 in
theorem bX7_box {n : Nat} {a1 : Int32} {a2 : Int32} {a3 : Int32} {a4 : Int32} {r : Int32} {y_xpi : (Nat → Int64)} (hx : p.tables.exec = Jvm.exec) (hb : c.code = cX7_box) (hml : c.maxLocals = 7) (hown : s.vm.findClass RX7 = some m.cls) (hts : ∀ w ∈ tw, w.before args s = true) (hK : va_K D vwCl [(cI, .int), (cJ, .long), (cG, .object "WornShapes$Program")] s) (hA : ∀ q, s.heap.size ≤ q → A q) (hR : 1 ≤ R.frames ∧ 29 ≤ R.locals ∧ cells ≤ R.cells ∧ slots ≤ R.slots) (hm : mX7_box n xpi fc fco fro fw a1 a2 a3 a4 = some (r, y_xpi)) (ls : Array Slot) (hl : lv_has ls 7 [(0, .ref oX), (1, .int a1), (2, .int a2), (3, .int a3), (4, .int a4)]) (hP : va_P D vwCl (wdX cJ cG cI oX oXp oXg oG0 oGa0 oG1 oGa1 oG2 oGa2 oQ oQw oI oR oRh oRm oB oBw oS oSs oF oFr oFs oFc oFw xpi gs0 ga0 gs1 ga1 gs2 ga2 qln qwy ijn rsz rhi rmi bsz bfi bla bar bwi srim sst fw fc fwh fbo fra fst fco fro) H) (hD : va_D A (wdX cJ cG cI oX oXp oXg oG0 oGa0 oG1 oGa1 oG2 oGa2 oQ oQw oI oR oRh oRm oB oBw oS oSs oF oFr oFs oFc oFw xpi gs0 ga0 gs1 ga1 gs2 ga2 qln qwy ijn rsz rhi rmi bsz bfi bla bar bwi srim sst fw fc fwh fbo fra fst fco fro)) (hS : va_S A s.heap H locs) (K : ∀ (pc : Nat) (ls : Array Slot) (H : Heap) (locs : List Loc), decode cX7_box pc = .ok (.ireturn, 1) → va_P D vwCl (wdX cJ cG cI oX oXp oXg oG0 oGa0 oG1 oGa1 oG2 oGa2 oQ oQw oI oR oRh oRm oB oBw oS oSs oF oFr oFs oFc oFw y_xpi gs0 ga0 gs1 ga1 gs2 ga2 qln qwy ijn rsz rhi rmi bsz bfi bla bar bwi srim sst fw fc fwh fbo fra fst fco fro) H → va_D A (wdX cJ cG cI oX oXp oXg oG0 oGa0 oG1 oGa1 oG2 oGa2 oQ oQw oI oR oRh oRm oB oBw oS oSs oF oFr oFs oFc oFw y_xpi gs0 ga0 gs1 ga1 gs2 ga2 qln qwy ijn rsz rhi rmi bsz bfi bla bar bwi srim sst fw fc fwh fbo fra fst fco fro) → va_S A s.heap H locs → W p l e R s m args below meth c H locs cells slots Q (F0 m pc ls [.int r])) : W p l e R s m args below meth c H locs cells slots Q (F0 m 0 ls []) := by
  unfold mX7_box at hm
  refine lv_iload_n hx hb dX7_box_0 rfl (lv_at hl 1 rfl) ?_
  refine kX7_isPicture ⟨hx, hb, hml, hown, hts⟩ qw_301 hl.1 ⟨Nat.le_trans (by decide) hR.1, Nat.le_trans (by decide) hR.2.1, hR.2.2⟩ (Nat.le_of_ble_eq_true rfl) dX7_box_1 ?_
  refine lv_if_eq (tgt := 29) hx hb dX7_box_4 (by decide) (fun c2 => ?_) (fun c2 => ?_)
  · rw [if_pos c2] at hm
    refine lv_iconst (v := (-1 : Int32)) hx hb dX7_box_29 (by decide) ?_
    have hm := Option.some.inj hm
    have e9 : r = (-1 : Int32) := (congrArg (fun q => q.1) hm).symm
    rw [e9] at K
    have e9 : y_xpi = xpi := (congrArg (fun q => q.2) hm).symm
    rw [e9] at K
    exact K 30 ls _ _ dX7_box_30 hP hD hS
  · rw [if_neg c2] at hm
    refine lv_aload_n hx hb dX7_box_7 rfl (lv_at hl 0 rfl) ?_
    refine va_get (D := D) (ci := 7) (v := .ref oF) (C := RX7) (T := TX7) (N := 8) hx hb hts tnX7 hown hK hP 0 rfl rfl 0 (by decide) (hts _ qw_302) (fun _ h9 => h9) rfl dX7_box_8 ?_
    refine lv_iload_n hx hb dX7_box_11 rfl (lv_at hl 2 rfl) ?_
    refine kX1_isCell ⟨hx, hb, hml, hown, hts⟩ qw_303 (hP.sub (ws' := (wdF cI cJ oF oFr oFs oFc oFw fw fc fwh fbo fra fst fco fro)) [19, 20, 21, 22, 23] rfl) (hK.sub (tys' := [(cI, .int), (cJ, .long)]) [0, 1] rfl) hl.1 ⟨Nat.le_trans (by decide) hR.1, Nat.le_trans (by decide) hR.2.1, hR.2.2⟩ (Nat.le_of_ble_eq_true rfl) dX7_box_12 ?_
    refine lv_if_eq (tgt := 29) hx hb dX7_box_15 (by decide) (fun c4 => ?_) (fun c4 => ?_)
    · rw [if_pos c4] at hm
      refine lv_iconst (v := (-1 : Int32)) hx hb dX7_box_29 (by decide) ?_
      have hm := Option.some.inj hm
      have e9 : r = (-1 : Int32) := (congrArg (fun q => q.1) hm).symm
      rw [e9] at K
      have e9 : y_xpi = xpi := (congrArg (fun q => q.2) hm).symm
      rw [e9] at K
      exact K 30 ls _ _ dX7_box_30 hP hD hS
    · rw [if_neg c4] at hm
      refine lv_aload_n hx hb dX7_box_18 rfl (lv_at hl 0 rfl) ?_
      refine va_get (D := D) (ci := 7) (v := .ref oF) (C := RX7) (T := TX7) (N := 8) hx hb hts tnX7 hown hK hP 0 rfl rfl 0 (by decide) (hts _ qw_302) (fun _ h9 => h9) rfl dX7_box_19 ?_
      refine lv_iload_n hx hb dX7_box_22 rfl (lv_at hl 3 rfl) ?_
      refine kX1_isCell ⟨hx, hb, hml, hown, hts⟩ qw_303 (hP.sub (ws' := (wdF cI cJ oF oFr oFs oFc oFw fw fc fwh fbo fra fst fco fro)) [19, 20, 21, 22, 23] rfl) (hK.sub (tys' := [(cI, .int), (cJ, .long)]) [0, 1] rfl) hl.1 ⟨Nat.le_trans (by decide) hR.1, Nat.le_trans (by decide) hR.2.1, hR.2.2⟩ (Nat.le_of_ble_eq_true rfl) dX7_box_23 ?_
      refine lv_if_ne (tgt := 31) hx hb dX7_box_26 (by decide) (fun c6 => ?_) (fun c6 => ?_)
      · rw [if_neg c6] at hm
        refine lv_aload_n hx hb dX7_box_31 rfl (lv_at hl 0 rfl) ?_
        refine va_get (D := D) (ci := 7) (v := .ref oF) (C := RX7) (T := TX7) (N := 8) hx hb hts tnX7 hown hK hP 0 rfl rfl 0 (by decide) (hts _ qw_302) (fun _ h9 => h9) rfl dX7_box_32 ?_
        refine lv_iload_n hx hb dX7_box_35 rfl (lv_at hl 2 rfl) ?_
        refine lv_iload_n hx hb dX7_box_36 rfl (lv_at hl 3 rfl) ?_
        obtain ⟨r7, h8, hm⟩ := jb_out hm
        refine kX1_rectangle ⟨hx, hb, hml, hown, hts⟩ qw_403 (hP.sub (ws' := (wdF cI cJ oF oFr oFs oFc oFw fw fc fwh fbo fra fst fco fro)) [19, 20, 21, 22, 23] rfl) (hK.sub (tys' := [(cI, .int), (cJ, .long)]) [0, 1] rfl) h8 hl.1 ⟨Nat.le_trans (by decide) hR.1, Nat.le_trans (by decide) hR.2.1, hR.2.2⟩ (Nat.le_of_ble_eq_true rfl) dX7_box_37 ?_
        refine lv_lstore (lv' := [(5, .long r7), (0, .ref oX), (1, .int a1), (2, .int a2), (3, .int a3), (4, .int a4)]) hx hb dX7_box_40 hl (by decide) rfl (fun ls hl => ?_)
        refine lv_lload hx hb dX7_box_42 (lv_at hl 0 rfl) ?_
        refine lv_lconst (v := (0 : Int64)) hx hb dX7_box_44 (by decide) ?_
        refine W.lcmp hx hb dX7_box_45 ?_
        refine lv_if_ne (tgt := 52) hx hb dX7_box_46 (by decide) (fun c9 => ?_) (fun c9 => ?_)
        · have c9 := fun h9 => c9 ((lg_cmp_eq r7 (0 : Int64)).mpr h9)
          rw [if_neg c9] at hm
          refine lv_aload_n hx hb dX7_box_52 rfl (lv_at hl 1 rfl) ?_
          refine lv_iload_n hx hb dX7_box_53 rfl (lv_at hl 2 rfl) ?_
          refine lv_lload hx hb dX7_box_54 (lv_at hl 0 rfl) ?_
          refine lv_iload hx hb dX7_box_56 (lv_at hl 5 rfl) ?_
          obtain ⟨y12, h11, hm⟩ := jb_out hm
          refine kX7_put (ws := (wdX cJ cG cI oX oXp oXg oG0 oGa0 oG1 oGa1 oG2 oGa2 oQ oQw oI oR oRh oRm oB oBw oS oSs oF oFr oFs oFc oFw xpi gs0 ga0 gs1 ga1 gs2 ga2 qln qwy ijn rsz rhi rmi bsz bfi bla bar bwi srim sst fw fc fwh fbo fra fst fco fro)) (wr := []) ⟨hx, hb, hml, hown, hts⟩ qw_399 [0, 1, 2, 3, 4, 5, 6, 7, 8, 9, 10, 11, 12, 13, 14, 15, 16, 17, 18, 19, 20, 21, 22, 23] [] rfl rfl (by decide) (by decide) (by decide) hK h11 hl.1 ⟨Nat.le_trans (by decide) hR.1, Nat.le_trans (by decide) hR.2.1, hR.2.2⟩ (Nat.le_of_ble_eq_true rfl) dX7_box_58 hP hD hS hA (fun H locs hP hD hS => ?_)
          have hP : va_P D vwCl (wdX cJ cG cI oX oXp oXg oG0 oGa0 oG1 oGa1 oG2 oGa2 oQ oQw oI oR oRh oRm oB oBw oS oSs oF oFr oFs oFc oFw y12 gs0 ga0 gs1 ga1 gs2 ga2 qln qwy ijn rsz rhi rmi bsz bfi bla bar bwi srim sst fw fc fwh fbo fra fst fco fro) H := hP.sub [0, 1, 2, 3, 4, 5, 6, 7, 8, 9, 10, 11, 12, 13, 14, 15, 16, 17, 18, 19, 20, 21, 22, 23] rfl
          have hD : va_D A (wdX cJ cG cI oX oXp oXg oG0 oGa0 oG1 oGa1 oG2 oGa2 oQ oQw oI oR oRh oRm oB oBw oS oSs oF oFr oFs oFc oFw y12 gs0 ga0 gs1 ga1 gs2 ga2 qln qwy ijn rsz rhi rmi bsz bfi bla bar bwi srim sst fw fc fwh fbo fra fst fco fro) := hD.sub [0, 1, 2, 3, 4, 5, 6, 7, 8, 9, 10, 11, 12, 13, 14, 15, 16, 17, 18, 19, 20, 21, 22, 23] (by decide) rfl
          refine lv_aload_n hx hb dX7_box_61 rfl (lv_at hl 1 rfl) ?_
          refine va_get (D := D) (ci := 7) (v := .ref oXp) (C := RX7) (T := TX7) (N := 8) hx hb hts tnX7 hown hK hP 0 rfl rfl 1 (by decide) (hts _ qw_297) (fun _ h9 => h9) rfl dX7_box_62 ?_
          refine lv_iload_n hx hb dX7_box_65 rfl (lv_at hl 2 rfl) ?_
          obtain ⟨g13, hm⟩ := gd_out hm
          refine va_lald hx hb hK hP 1 1 rfl rfl g13 dX7_box_66 ?_
          refine kJ13_bitCount_95d88 ⟨hx, hb, hml, hown, hts⟩ qw_314 hl.1 ⟨Nat.le_trans (by decide) hR.1, Nat.le_trans (by decide) hR.2.1, hR.2.2⟩ (Nat.le_of_ble_eq_true rfl) dX7_box_67 ?_
          have hm := Option.some.inj hm
          have e9 : r = (mJ13_bitCount_95d88 (y12 a1.toNatClampNeg)) := (congrArg (fun q => q.1) hm).symm
          rw [e9] at K
          have e9 : y_xpi = y12 := (congrArg (fun q => q.2) hm).symm
          rw [e9] at K
          exact K 70 ls _ _ dX7_box_70 hP hD hS
        · have c9 := (lg_cmp_eq r7 (0 : Int64)).mp c9
          rw [if_pos c9] at hm
          refine lv_bipush (v := (-2 : Int32)) hx hb dX7_box_49 (by decide) ?_
          have hm := Option.some.inj hm
          have e9 : r = (-2 : Int32) := (congrArg (fun q => q.1) hm).symm
          rw [e9] at K
          have e9 : y_xpi = xpi := (congrArg (fun q => q.2) hm).symm
          rw [e9] at K
          exact K 51 ls _ _ dX7_box_51 hP hD hS
      · rw [if_pos c6] at hm
        refine lv_iconst (v := (-1 : Int32)) hx hb dX7_box_29 (by decide) ?_
        have hm := Option.some.inj hm
        have e9 : r = (-1 : Int32) := (congrArg (fun q => q.1) hm).symm
        rw [e9] at K
        have e9 : y_xpi = xpi := (congrArg (fun q => q.2) hm).symm
        rw [e9] at K
        exact K 30 ls _ _ dX7_box_30 hP hD hS
set_option maxHeartbeats 4000000 in
set_option maxRecDepth 100000 in
theorem tX7_box (l : Launch) {D : va_G} (sz : Nat) {n : Nat} {a1 : Int32} {a2 : Int32} {a3 : Int32} {a4 : Int32} {r : Int32} {y_xpi : (Nat → Int64)} (hm : mX7_box n xpi fc fco fro fw a1 a2 a3 a4 = some (r, y_xpi)) : Met l yX7_box (.code yX7_box cX7_box 7 (some .int) :: tw) ({ frames := 1, cells := 0, slots := 0, locals := 29 } : Room) (wrP D [.ref oX, .int a1, .int a2, .int a3, .int a4] (wdX cJ cG cI oX oXp oXg oG0 oGa0 oG1 oGa1 oG2 oGa2 oQ oQw oI oR oRh oRm oB oBw oS oSs oF oFr oFs oFc oFw xpi gs0 ga0 gs1 ga1 gs2 ga2 qln qwy ijn rsz rhi rmi bsz bfi bla bar bwi srim sst fw fc fwh fbo fra fst fco fro) [(cI, .int), (cJ, .long), (cG, .object "WornShapes$Program")] sz) (va_Qi (fun q (_ : Unit) => q = r) (fun (_ : Unit) (t : State) => va_P D vwCl (wdX cJ cG cI oX oXp oXg oG0 oGa0 oG1 oGa1 oG2 oGa2 oQ oQw oI oR oRh oRm oB oBw oS oSs oF oFr oFs oFc oFw y_xpi gs0 ga0 gs1 ga1 gs2 ga2 qln qwy ijn rsz rhi rmi bsz bfi bla bar bwi srim sst fw fc fwh fbo fra fst fco fro) t.heap ∧ va_K D vwCl [(cI, .int), (cJ, .long), (cG, .object "WornShapes$Program")] t ∧ va_D (va_A (wdX cJ cG cI oX oXp oXg oG0 oGa0 oG1 oGa1 oG2 oGa2 oQ oQw oI oR oRh oRm oB oBw oS oSs oF oFr oFs oFc oFw xpi gs0 ga0 gs1 ga1 gs2 ga2 qln qwy ijn rsz rhi rmi bsz bfi bla bar bwi srim sst fw fc fwh fbo fra fst fco fro) sz) (wdX cJ cG cI oX oXp oXg oG0 oGa0 oG1 oGa1 oG2 oGa2 oQ oQw oI oR oRh oRm oB oBw oS oSs oF oFr oFs oFc oFw y_xpi gs0 ga0 gs1 ga1 gs2 ga2 qln qwy ijn rsz rhi rmi bsz bfi bla bar bwi srim sst fw fc fwh fbo fra fst fco fro)) (va_A (wdX cJ cG cI oX oXp oXg oG0 oGa0 oG1 oGa1 oG2 oGa2 oQ oQw oI oR oRh oRm oB oBw oS oSs oF oFr oFs oFc oFw xpi gs0 ga0 gs1 ga1 gs2 ga2 qln qwy ijn rsz rhi rmi bsz bfi bla bar bwi srim sst fw fc fwh fbo fra fst fco fro) sz)) 0 0 (va_A (wdX cJ cG cI oX oXp oXg oG0 oGa0 oG1 oGa1 oG2 oGa2 oQ oQw oI oR oRh oRm oB oBw oS oSs oF oFr oFs oFc oFw xpi gs0 ga0 gs1 ga1 gs2 ga2 qln qwy ijn rsz rhi rmi bsz bfi bla bar bwi srim sst fw fc fwh fbo fra fst fco fro) sz) := by
  refine Met.ofW (cc := cX7_box) (maxL := 7) (ret := (some .int)) (by decide) rfl ?_
  intro p e s m args below meth c s₁ B hml hv
  obtain ⟨rfl, hsz, hP, hK, hD0⟩ := hv
  have hx := B.exec
  have hb := B.bytes
  have hr := B.returns
  have hts : ∀ w ∈ tw, w.before _ s = true := fun w h => atoms_spec (ws := .code yX7_box cX7_box 7 (some .int) :: tw) B.pre w (List.mem_cons_of_mem _ h)
  have hown : s.vm.findClass RX7 = some m.cls := findClass_of_methodNamed B.named
  have hlocks := B.notSynchronized
  subst hsz
  have hD := hD0.self (sz := s.heap.size)
  have hl := lv_entry ([.ref oX, .int a1, .int a2, .int a3, .int a4]) (n := 7) (Nat.le_of_ble_eq_true rfl)
  rw [lg_entry_eq]
  generalize (lg_sl ([.ref oX, .int a1, .int a2, .int a3, .int a4]) ++ List.replicate (7 - (lg_sl ([.ref oX, .int a1, .int a2, .int a3, .int a4])).length) Slot.unset).toArray = ls at hl ⊢
  refine bX7_box hx hb hml hown hts hK (fun q h => Or.inr h) ⟨Nat.le_of_ble_eq_true rfl, Nat.le_of_ble_eq_true rfl, Nat.zero_le _, Nat.zero_le _⟩ hm ls hl hP hD va_S.rf (fun pc ls H locs hd hP hD hS => ?_)
  exact W.iret hx hb hr (fun t ht hW => ⟨⟨r, (), rfl, rfl, by rw [ht]; exact hP, va_K.moved hW.alike hK, hD⟩, hS.F ht⟩) hS.2.2 hd
set_option maxHeartbeats 4000000 in
set_option maxRecDepth 100000 in
theorem kX7_box {own : String} {cc : ByteArray} {nL idx pc : Nat} {ls : Array Slot} {rest : List Value} {ws wr : va_W} {n : Nat} {a1 : Int32} {a2 : Int32} {a3 : Int32} {a4 : Int32} {r : Int32} {y_xpi : (Nat → Int64)} (fx : CallFix p m c cc nL s args tw own) (hq : Cond.methodLink own idx yX7_box ∈ tw) (isC isR : List Nat) (hC : isC.map (fun i => ws[i]?) = ((wdX cJ cG cI oX oXp oXg oG0 oGa0 oG1 oGa1 oG2 oGa2 oQ oQw oI oR oRh oRm oB oBw oS oSs oF oFr oFs oFc oFw xpi gs0 ga0 gs1 ga1 gs2 ga2 qln qwy ijn rsz rhi rmi bsz bfi bla bar bwi srim sst fw fc fwh fbo fra fst fco fro) : va_W).map some) (hRr : isR.map (fun i => ws[i]?) = wr.map some) (hnC : va_nd isC = true) (hn : va_nd isR = true) (hdis : ∀ i ∈ isR, i ∉ isC) (hK : va_K D vwCl [(cI, .int), (cJ, .long), (cG, .object "WornShapes$Program")] s) (hm : mX7_box n xpi fc fco fro fw a1 a2 a3 a4 = some (r, y_xpi)) (hsz : ls.size = nL) (hR : 2 ≤ R.frames ∧ 55 ≤ R.locals ∧ cells ≤ R.cells ∧ slots ≤ R.slots) (hst : (rest.map fun v => v.category).sum ≤ 8) (hd : decode cc pc = .ok (.invokevirtual idx, 3)) (hP : va_P D vwCl ws H) (hD : va_D A ws) (hS : va_S A s.heap H locs) (hA : ∀ q, s.heap.size ≤ q → A q) (kk : ∀ (H : Heap) (locs : List Loc), va_P D vwCl (wr ++ (wdX cJ cG cI oX oXp oXg oG0 oGa0 oG1 oGa1 oG2 oGa2 oQ oQw oI oR oRh oRm oB oBw oS oSs oF oFr oFs oFc oFw y_xpi gs0 ga0 gs1 ga1 gs2 ga2 qln qwy ijn rsz rhi rmi bsz bfi bla bar bwi srim sst fw fc fwh fbo fra fst fco fro)) H → va_D A (wr ++ (wdX cJ cG cI oX oXp oXg oG0 oGa0 oG1 oGa1 oG2 oGa2 oQ oQw oI oR oRh oRm oB oBw oS oSs oF oFr oFs oFc oFw y_xpi gs0 ga0 gs1 ga1 gs2 ga2 qln qwy ijn rsz rhi rmi bsz bfi bla bar bwi srim sst fw fc fwh fbo fra fst fco fro)) → va_S A s.heap H locs → W p l e R s m args below meth c H locs cells slots Q (F0 m (pc + 3) ls (.int r :: rest))) : W p l e R s m args below meth c H locs cells slots Q (F0 m pc ls (.int a4 :: .int a3 :: .int a2 :: .int a1 :: .ref oX :: rest)) := by
  have hPc := va_P.subM hP isC hC
  have hDc := hD.sub isC hnC hC
  have hFc := va_free (wc := (wdX cJ cG cI oX oXp oXg oG0 oGa0 oG1 oGa1 oG2 oGa2 oQ oQw oI oR oRh oRm oB oBw oS oSs oF oFr oFs oFc oFw xpi gs0 ga0 gs1 ga1 gs2 ga2 qln qwy ijn rsz rhi rmi bsz bfi bla bar bwi srim sst fw fc fwh fbo fra fst fco fro)) hD hS hA isC hC
  refine va_calli (va_runV (As := [.int a1, .int a2, .int a3, .int a4]) (rest := rest) fx (tX7_box l H.size hm) (cwV 4 fx.2.2.2.2 (tw_V hq qw_404 qw_405 qw_288 qw_406) rfl rfl rfl (by decide +kernel) ⟨hR.1, hR.2.1⟩) ⟨wrP_bl, va_recv hK hPc (ci := 7) (q0 := 0) rfl rfl, wrP_ok hPc hK hDc⟩ rfl rfl hsz rfl (lv_room hst) hd ⟨hR.2.2.1, hR.2.2.2⟩) hS (fun q _ h => hFc q h) hFc (fun r9 u t H1 locs ht hvm hw hB hz1 hk1 hS => ?_)
  obtain ⟨hP1, hK1, hD1⟩ := hB
  rw [ht] at hP1
  rw [hw]
  obtain ⟨hP2, hD2⟩ := va_join (wr := wr) (w1 := (wdX cJ cG cI oX oXp oXg oG0 oGa0 oG1 oGa1 oG2 oGa2 oQ oQw oI oR oRh oRm oB oBw oS oSs oF oFr oFs oFc oFw y_xpi gs0 ga0 gs1 ga1 gs2 ga2 qln qwy ijn rsz rhi rmi bsz bfi bla bar bwi srim sst fw fc fwh fbo fra fst fco fro)) hP hD isC isR hC hRr hn hdis hk1 hFc hP1 hD1
  exact kk H1 locs hP2 hD2 hS
-- X7_stamp
def mX7_stamp (sst : Nat → Int32) (a1 : Int32) (a2 : Int32) : Option (Int32 × (Nat → Int32)) :=
  (if (mX6_isStamp a1) = 0 then (some ((-1 : Int32), sst)) else (if a2 < 0 then (some ((-2 : Int32), sst)) else (if a2 < (512 : Int32) then gd (ib a1 4) (gd (ib a1 4) ((some ((sst a1.toNatClampNeg), (upd sst a1.toNatClampNeg a2))))) else (some ((-2 : Int32), sst)))))
theorem dX7_stamp_0 : decode cX7_stamp 0 = .ok (.iload_n 1, 1) := by decide +kernel
theorem dX7_stamp_1 : decode cX7_stamp 1 = .ok (.invokestatic 107, 3) := by decide +kernel
theorem dX7_stamp_4 : decode cX7_stamp 4 = .ok (.ifCond .ne 5, 3) := by decide +kernel
theorem dX7_stamp_7 : decode cX7_stamp 7 = .ok (.iconst (-1), 1) := by decide +kernel
theorem dX7_stamp_8 : decode cX7_stamp 8 = .ok (.ireturn, 1) := by decide +kernel
theorem dX7_stamp_9 : decode cX7_stamp 9 = .ok (.iload_n 2, 1) := by decide +kernel
theorem dX7_stamp_10 : decode cX7_stamp 10 = .ok (.ifCond .lt 10, 3) := by decide +kernel
theorem dX7_stamp_13 : decode cX7_stamp 13 = .ok (.iload_n 2, 1) := by decide +kernel
theorem dX7_stamp_14 : decode cX7_stamp 14 = .ok (.sipush 512, 3) := by decide +kernel
theorem dX7_stamp_17 : decode cX7_stamp 17 = .ok (.if_icmp .lt 6, 3) := by decide +kernel
theorem dX7_stamp_20 : decode cX7_stamp 20 = .ok (.bipush (-2), 2) := by decide +kernel
theorem dX7_stamp_22 : decode cX7_stamp 22 = .ok (.ireturn, 1) := by decide +kernel
theorem dX7_stamp_23 : decode cX7_stamp 23 = .ok (.aload_n 0, 1) := by decide +kernel
theorem dX7_stamp_24 : decode cX7_stamp 24 = .ok (.getfield 27, 3) := by decide +kernel
theorem dX7_stamp_27 : decode cX7_stamp 27 = .ok (.getfield 110, 3) := by decide +kernel
theorem dX7_stamp_30 : decode cX7_stamp 30 = .ok (.iload_n 1, 1) := by decide +kernel
theorem dX7_stamp_31 : decode cX7_stamp 31 = .ok (.iaload, 1) := by decide +kernel
theorem dX7_stamp_32 : decode cX7_stamp 32 = .ok (.istore_n 3, 1) := by decide +kernel
theorem dX7_stamp_33 : decode cX7_stamp 33 = .ok (.aload_n 0, 1) := by decide +kernel
theorem dX7_stamp_34 : decode cX7_stamp 34 = .ok (.getfield 27, 3) := by decide +kernel
theorem dX7_stamp_37 : decode cX7_stamp 37 = .ok (.getfield 110, 3) := by decide +kernel
theorem dX7_stamp_40 : decode cX7_stamp 40 = .ok (.iload_n 1, 1) := by decide +kernel
theorem dX7_stamp_41 : decode cX7_stamp 41 = .ok (.iload_n 2, 1) := by decide +kernel
theorem dX7_stamp_42 : decode cX7_stamp 42 = .ok (.iastore, 1) := by decide +kernel
theorem dX7_stamp_43 : decode cX7_stamp 43 = .ok (.iload_n 3, 1) := by decide +kernel
theorem dX7_stamp_44 : decode cX7_stamp 44 = .ok (.ireturn, 1) := by decide +kernel
set_option maxHeartbeats 4000000 in
set_option maxRecDepth 100000 in
theorem bX7_stamp {a1 : Int32} {a2 : Int32} {r : Int32} {y_sst : (Nat → Int32)} (hx : p.tables.exec = Jvm.exec) (hb : c.code = cX7_stamp) (hml : c.maxLocals = 4) (hown : s.vm.findClass RX7 = some m.cls) (hts : ∀ w ∈ tw, w.before args s = true) (hK : va_K D vwCl [(cI, .int), (cJ, .long), (cG, .object "WornShapes$Program")] s) (hA : ∀ q, s.heap.size ≤ q → A q) (hR : 1 ≤ R.frames ∧ 20 ≤ R.locals ∧ cells ≤ R.cells ∧ slots ≤ R.slots) (hm : mX7_stamp sst a1 a2 = some (r, y_sst)) (ls : Array Slot) (hl : lv_has ls 4 [(0, .ref oX), (1, .int a1), (2, .int a2)]) (hP : va_P D vwCl (wdX cJ cG cI oX oXp oXg oG0 oGa0 oG1 oGa1 oG2 oGa2 oQ oQw oI oR oRh oRm oB oBw oS oSs oF oFr oFs oFc oFw xpi gs0 ga0 gs1 ga1 gs2 ga2 qln qwy ijn rsz rhi rmi bsz bfi bla bar bwi srim sst fw fc fwh fbo fra fst fco fro) H) (hD : va_D A (wdX cJ cG cI oX oXp oXg oG0 oGa0 oG1 oGa1 oG2 oGa2 oQ oQw oI oR oRh oRm oB oBw oS oSs oF oFr oFs oFc oFw xpi gs0 ga0 gs1 ga1 gs2 ga2 qln qwy ijn rsz rhi rmi bsz bfi bla bar bwi srim sst fw fc fwh fbo fra fst fco fro)) (hS : va_S A s.heap H locs) (K : ∀ (pc : Nat) (ls : Array Slot) (H : Heap) (locs : List Loc), decode cX7_stamp pc = .ok (.ireturn, 1) → va_P D vwCl (wdX cJ cG cI oX oXp oXg oG0 oGa0 oG1 oGa1 oG2 oGa2 oQ oQw oI oR oRh oRm oB oBw oS oSs oF oFr oFs oFc oFw xpi gs0 ga0 gs1 ga1 gs2 ga2 qln qwy ijn rsz rhi rmi bsz bfi bla bar bwi srim y_sst fw fc fwh fbo fra fst fco fro) H → va_D A (wdX cJ cG cI oX oXp oXg oG0 oGa0 oG1 oGa1 oG2 oGa2 oQ oQw oI oR oRh oRm oB oBw oS oSs oF oFr oFs oFc oFw xpi gs0 ga0 gs1 ga1 gs2 ga2 qln qwy ijn rsz rhi rmi bsz bfi bla bar bwi srim y_sst fw fc fwh fbo fra fst fco fro) → va_S A s.heap H locs → W p l e R s m args below meth c H locs cells slots Q (F0 m pc ls [.int r])) : W p l e R s m args below meth c H locs cells slots Q (F0 m 0 ls []) := by
  unfold mX7_stamp at hm
  refine lv_iload_n hx hb dX7_stamp_0 rfl (lv_at hl 1 rfl) ?_
  refine kX6_isStamp ⟨hx, hb, hml, hown, hts⟩ qw_336 hl.1 ⟨Nat.le_trans (by decide) hR.1, Nat.le_trans (by decide) hR.2.1, hR.2.2⟩ (Nat.le_of_ble_eq_true rfl) dX7_stamp_1 ?_
  refine lv_if_ne (tgt := 9) hx hb dX7_stamp_4 (by decide) (fun c2 => ?_) (fun c2 => ?_)
  · rw [if_neg c2] at hm
    refine lv_iload_n hx hb dX7_stamp_9 rfl (lv_at hl 2 rfl) ?_
    refine lv_if_lt (tgt := 20) hx hb dX7_stamp_10 (by decide) (fun c3 => ?_) (fun c3 => ?_)
    · rw [if_pos c3] at hm
      refine lv_bipush (v := (-2 : Int32)) hx hb dX7_stamp_20 (by decide) ?_
      have hm := Option.some.inj hm
      have e9 : r = (-2 : Int32) := (congrArg (fun q => q.1) hm).symm
      rw [e9] at K
      have e9 : y_sst = sst := (congrArg (fun q => q.2) hm).symm
      rw [e9] at K
      exact K 22 ls _ _ dX7_stamp_22 hP hD hS
    · rw [if_neg c3] at hm
      refine lv_iload_n hx hb dX7_stamp_13 rfl (lv_at hl 2 rfl) ?_
      refine lv_sipush (v := (512 : Int32)) hx hb dX7_stamp_14 (by decide) ?_
      refine lv_icmp_lt (tgt := 23) hx hb dX7_stamp_17 (by decide) (fun c4 => ?_) (fun c4 => ?_)
      · rw [if_pos c4] at hm
        refine lv_aload_n hx hb dX7_stamp_23 rfl (lv_at hl 0 rfl) ?_
        refine va_get (D := D) (ci := 7) (v := .ref oS) (C := RX7) (T := TX7) (N := 8) hx hb hts tnX7 hown hK hP 0 rfl rfl 2 (by decide) (hts _ qw_312) (fun _ h9 => h9) rfl dX7_stamp_24 ?_
        refine va_get (D := D) (ci := 6) (v := .ref oSs) (C := RX6) (T := TX6) (N := 3) hx hb hts tnX6 hown hK hP 17 rfl rfl 1 (by decide) (hts _ qw_407) (fun _ h9 => h9) rfl dX7_stamp_27 ?_
        refine lv_iload_n hx hb dX7_stamp_30 rfl (lv_at hl 1 rfl) ?_
        obtain ⟨g5, hm⟩ := gd_out hm
        refine va_iald hx hb hK hP 18 0 rfl rfl g5 dX7_stamp_31 ?_
        refine lv_istore_n (lv' := [(3, .int (sst a1.toNatClampNeg)), (0, .ref oX), (1, .int a1), (2, .int a2)]) hx hb dX7_stamp_32 rfl hl (by decide) rfl (fun ls hl => ?_)
        refine lv_aload_n hx hb dX7_stamp_33 rfl (lv_at hl 1 rfl) ?_
        refine va_get (D := D) (ci := 7) (v := .ref oS) (C := RX7) (T := TX7) (N := 8) hx hb hts tnX7 hown hK hP 0 rfl rfl 2 (by decide) (hts _ qw_312) (fun _ h9 => h9) rfl dX7_stamp_34 ?_
        refine va_get (D := D) (ci := 6) (v := .ref oSs) (C := RX6) (T := TX6) (N := 3) hx hb hts tnX6 hown hK hP 17 rfl rfl 1 (by decide) (hts _ qw_407) (fun _ h9 => h9) rfl dX7_stamp_37 ?_
        refine lv_iload_n hx hb dX7_stamp_40 rfl (lv_at hl 2 rfl) ?_
        refine lv_iload_n hx hb dX7_stamp_41 rfl (lv_at hl 3 rfl) ?_
        obtain ⟨g6, hm⟩ := gd_out hm
        refine va_iast hx hb hK hP hD hS 18 0 rfl rfl g6 dX7_stamp_42 (fun H locs hP hD hS => ?_)
        have hP : va_P D vwCl (wdX cJ cG cI oX oXp oXg oG0 oGa0 oG1 oGa1 oG2 oGa2 oQ oQw oI oR oRh oRm oB oBw oS oSs oF oFr oFs oFc oFw xpi gs0 ga0 gs1 ga1 gs2 ga2 qln qwy ijn rsz rhi rmi bsz bfi bla bar bwi srim (upd sst a1.toNatClampNeg a2) fw fc fwh fbo fra fst fco fro) H := hP
        have hD : va_D A (wdX cJ cG cI oX oXp oXg oG0 oGa0 oG1 oGa1 oG2 oGa2 oQ oQw oI oR oRh oRm oB oBw oS oSs oF oFr oFs oFc oFw xpi gs0 ga0 gs1 ga1 gs2 ga2 qln qwy ijn rsz rhi rmi bsz bfi bla bar bwi srim (upd sst a1.toNatClampNeg a2) fw fc fwh fbo fra fst fco fro) := hD
        refine lv_iload_n hx hb dX7_stamp_43 rfl (lv_at hl 0 rfl) ?_
        have hm := Option.some.inj hm
        have e9 : r = (sst a1.toNatClampNeg) := (congrArg (fun q => q.1) hm).symm
        rw [e9] at K
        have e9 : y_sst = (upd sst a1.toNatClampNeg a2) := (congrArg (fun q => q.2) hm).symm
        rw [e9] at K
        exact K 44 ls _ _ dX7_stamp_44 hP hD hS
      · rw [if_neg c4] at hm
        refine lv_bipush (v := (-2 : Int32)) hx hb dX7_stamp_20 (by decide) ?_
        have hm := Option.some.inj hm
        have e9 : r = (-2 : Int32) := (congrArg (fun q => q.1) hm).symm
        rw [e9] at K
        have e9 : y_sst = sst := (congrArg (fun q => q.2) hm).symm
        rw [e9] at K
        exact K 22 ls _ _ dX7_stamp_22 hP hD hS
  · rw [if_pos c2] at hm
    refine lv_iconst (v := (-1 : Int32)) hx hb dX7_stamp_7 (by decide) ?_
    have hm := Option.some.inj hm
    have e9 : r = (-1 : Int32) := (congrArg (fun q => q.1) hm).symm
    rw [e9] at K
    have e9 : y_sst = sst := (congrArg (fun q => q.2) hm).symm
    rw [e9] at K
    exact K 8 ls _ _ dX7_stamp_8 hP hD hS
set_option maxHeartbeats 4000000 in
set_option maxRecDepth 100000 in
theorem tX7_stamp (l : Launch) {D : va_G} (sz : Nat) {a1 : Int32} {a2 : Int32} {r : Int32} {y_sst : (Nat → Int32)} (hm : mX7_stamp sst a1 a2 = some (r, y_sst)) : Met l yX7_stamp (.code yX7_stamp cX7_stamp 4 (some .int) :: tw) ({ frames := 1, cells := 0, slots := 0, locals := 20 } : Room) (wrP D [.ref oX, .int a1, .int a2] (wdX cJ cG cI oX oXp oXg oG0 oGa0 oG1 oGa1 oG2 oGa2 oQ oQw oI oR oRh oRm oB oBw oS oSs oF oFr oFs oFc oFw xpi gs0 ga0 gs1 ga1 gs2 ga2 qln qwy ijn rsz rhi rmi bsz bfi bla bar bwi srim sst fw fc fwh fbo fra fst fco fro) [(cI, .int), (cJ, .long), (cG, .object "WornShapes$Program")] sz) (va_Qi (fun q (_ : Unit) => q = r) (fun (_ : Unit) (t : State) => va_P D vwCl (wdX cJ cG cI oX oXp oXg oG0 oGa0 oG1 oGa1 oG2 oGa2 oQ oQw oI oR oRh oRm oB oBw oS oSs oF oFr oFs oFc oFw xpi gs0 ga0 gs1 ga1 gs2 ga2 qln qwy ijn rsz rhi rmi bsz bfi bla bar bwi srim y_sst fw fc fwh fbo fra fst fco fro) t.heap ∧ va_K D vwCl [(cI, .int), (cJ, .long), (cG, .object "WornShapes$Program")] t ∧ va_D (va_A (wdX cJ cG cI oX oXp oXg oG0 oGa0 oG1 oGa1 oG2 oGa2 oQ oQw oI oR oRh oRm oB oBw oS oSs oF oFr oFs oFc oFw xpi gs0 ga0 gs1 ga1 gs2 ga2 qln qwy ijn rsz rhi rmi bsz bfi bla bar bwi srim sst fw fc fwh fbo fra fst fco fro) sz) (wdX cJ cG cI oX oXp oXg oG0 oGa0 oG1 oGa1 oG2 oGa2 oQ oQw oI oR oRh oRm oB oBw oS oSs oF oFr oFs oFc oFw xpi gs0 ga0 gs1 ga1 gs2 ga2 qln qwy ijn rsz rhi rmi bsz bfi bla bar bwi srim y_sst fw fc fwh fbo fra fst fco fro)) (va_A (wdX cJ cG cI oX oXp oXg oG0 oGa0 oG1 oGa1 oG2 oGa2 oQ oQw oI oR oRh oRm oB oBw oS oSs oF oFr oFs oFc oFw xpi gs0 ga0 gs1 ga1 gs2 ga2 qln qwy ijn rsz rhi rmi bsz bfi bla bar bwi srim sst fw fc fwh fbo fra fst fco fro) sz)) 0 0 (va_A (wdX cJ cG cI oX oXp oXg oG0 oGa0 oG1 oGa1 oG2 oGa2 oQ oQw oI oR oRh oRm oB oBw oS oSs oF oFr oFs oFc oFw xpi gs0 ga0 gs1 ga1 gs2 ga2 qln qwy ijn rsz rhi rmi bsz bfi bla bar bwi srim sst fw fc fwh fbo fra fst fco fro) sz) := by
  refine Met.ofW (cc := cX7_stamp) (maxL := 4) (ret := (some .int)) (by decide) rfl ?_
  intro p e s m args below meth c s₁ B hml hv
  obtain ⟨rfl, hsz, hP, hK, hD0⟩ := hv
  have hx := B.exec
  have hb := B.bytes
  have hr := B.returns
  have hts : ∀ w ∈ tw, w.before _ s = true := fun w h => atoms_spec (ws := .code yX7_stamp cX7_stamp 4 (some .int) :: tw) B.pre w (List.mem_cons_of_mem _ h)
  have hown : s.vm.findClass RX7 = some m.cls := findClass_of_methodNamed B.named
  have hlocks := B.notSynchronized
  subst hsz
  have hD := hD0.self (sz := s.heap.size)
  have hl := lv_entry ([.ref oX, .int a1, .int a2]) (n := 4) (Nat.le_of_ble_eq_true rfl)
  rw [lg_entry_eq]
  generalize (lg_sl ([.ref oX, .int a1, .int a2]) ++ List.replicate (4 - (lg_sl ([.ref oX, .int a1, .int a2])).length) Slot.unset).toArray = ls at hl ⊢
  refine bX7_stamp hx hb hml hown hts hK (fun q h => Or.inr h) ⟨Nat.le_of_ble_eq_true rfl, Nat.le_of_ble_eq_true rfl, Nat.zero_le _, Nat.zero_le _⟩ hm ls hl hP hD va_S.rf (fun pc ls H locs hd hP hD hS => ?_)
  exact W.iret hx hb hr (fun t ht hW => ⟨⟨r, (), rfl, rfl, by rw [ht]; exact hP, va_K.moved hW.alike hK, hD⟩, hS.F ht⟩) hS.2.2 hd
set_option maxHeartbeats 4000000 in
set_option maxRecDepth 100000 in
theorem kX7_stamp {own : String} {cc : ByteArray} {nL idx pc : Nat} {ls : Array Slot} {rest : List Value} {ws wr : va_W} {a1 : Int32} {a2 : Int32} {r : Int32} {y_sst : (Nat → Int32)} (fx : CallFix p m c cc nL s args tw own) (hq : Cond.methodLink own idx yX7_stamp ∈ tw) (isC isR : List Nat) (hC : isC.map (fun i => ws[i]?) = ((wdX cJ cG cI oX oXp oXg oG0 oGa0 oG1 oGa1 oG2 oGa2 oQ oQw oI oR oRh oRm oB oBw oS oSs oF oFr oFs oFc oFw xpi gs0 ga0 gs1 ga1 gs2 ga2 qln qwy ijn rsz rhi rmi bsz bfi bla bar bwi srim sst fw fc fwh fbo fra fst fco fro) : va_W).map some) (hRr : isR.map (fun i => ws[i]?) = wr.map some) (hnC : va_nd isC = true) (hn : va_nd isR = true) (hdis : ∀ i ∈ isR, i ∉ isC) (hK : va_K D vwCl [(cI, .int), (cJ, .long), (cG, .object "WornShapes$Program")] s) (hm : mX7_stamp sst a1 a2 = some (r, y_sst)) (hsz : ls.size = nL) (hR : 2 ≤ R.frames ∧ 43 ≤ R.locals ∧ cells ≤ R.cells ∧ slots ≤ R.slots) (hst : (rest.map fun v => v.category).sum ≤ 8) (hd : decode cc pc = .ok (.invokevirtual idx, 3)) (hP : va_P D vwCl ws H) (hD : va_D A ws) (hS : va_S A s.heap H locs) (hA : ∀ q, s.heap.size ≤ q → A q) (kk : ∀ (H : Heap) (locs : List Loc), va_P D vwCl (wr ++ (wdX cJ cG cI oX oXp oXg oG0 oGa0 oG1 oGa1 oG2 oGa2 oQ oQw oI oR oRh oRm oB oBw oS oSs oF oFr oFs oFc oFw xpi gs0 ga0 gs1 ga1 gs2 ga2 qln qwy ijn rsz rhi rmi bsz bfi bla bar bwi srim y_sst fw fc fwh fbo fra fst fco fro)) H → va_D A (wr ++ (wdX cJ cG cI oX oXp oXg oG0 oGa0 oG1 oGa1 oG2 oGa2 oQ oQw oI oR oRh oRm oB oBw oS oSs oF oFr oFs oFc oFw xpi gs0 ga0 gs1 ga1 gs2 ga2 qln qwy ijn rsz rhi rmi bsz bfi bla bar bwi srim y_sst fw fc fwh fbo fra fst fco fro)) → va_S A s.heap H locs → W p l e R s m args below meth c H locs cells slots Q (F0 m (pc + 3) ls (.int r :: rest))) : W p l e R s m args below meth c H locs cells slots Q (F0 m pc ls (.int a2 :: .int a1 :: .ref oX :: rest)) := by
  have hPc := va_P.subM hP isC hC
  have hDc := hD.sub isC hnC hC
  have hFc := va_free (wc := (wdX cJ cG cI oX oXp oXg oG0 oGa0 oG1 oGa1 oG2 oGa2 oQ oQw oI oR oRh oRm oB oBw oS oSs oF oFr oFs oFc oFw xpi gs0 ga0 gs1 ga1 gs2 ga2 qln qwy ijn rsz rhi rmi bsz bfi bla bar bwi srim sst fw fc fwh fbo fra fst fco fro)) hD hS hA isC hC
  refine va_calli (va_runV (As := [.int a1, .int a2]) (rest := rest) fx (tX7_stamp l H.size hm) (cwV 2 fx.2.2.2.2 (tw_V hq qw_408 qw_409 qw_288 qw_410) rfl rfl rfl (by decide +kernel) ⟨hR.1, hR.2.1⟩) ⟨wrP_bl, va_recv hK hPc (ci := 7) (q0 := 0) rfl rfl, wrP_ok hPc hK hDc⟩ rfl rfl hsz rfl (lv_room hst) hd ⟨hR.2.2.1, hR.2.2.2⟩) hS (fun q _ h => hFc q h) hFc (fun r9 u t H1 locs ht hvm hw hB hz1 hk1 hS => ?_)
  obtain ⟨hP1, hK1, hD1⟩ := hB
  rw [ht] at hP1
  rw [hw]
  obtain ⟨hP2, hD2⟩ := va_join (wr := wr) (w1 := (wdX cJ cG cI oX oXp oXg oG0 oGa0 oG1 oGa1 oG2 oGa2 oQ oQw oI oR oRh oRm oB oBw oS oSs oF oFr oFs oFc oFw xpi gs0 ga0 gs1 ga1 gs2 ga2 qln qwy ijn rsz rhi rmi bsz bfi bla bar bwi srim y_sst fw fc fwh fbo fra fst fco fro)) hP hD isC isR hC hRr hn hdis hk1 hFc hP1 hD1
  exact kk H1 locs hP2 hD2 hS
-- X7_rule
def mX7_rule (srim : Int32) (ijn : Int32) (a1 : Int32) (a2 : Int32) : Option (Int32 × (Int32) × (Int32)) :=
  (if a1 = 0 then (if a2 = 0 then jl (if srim = 0 then (0 : Int32) else (1 : Int32)) (fun j6 => jl (if a2 = (1 : Int32) then (1 : Int32) else (0 : Int32)) (fun j10 => (some (j6, ijn, j10)))) else (if a2 = (1 : Int32) then jl (if srim = 0 then (0 : Int32) else (1 : Int32)) (fun j18 => jl (if a2 = (1 : Int32) then (1 : Int32) else (0 : Int32)) (fun j22 => (some (j18, ijn, j22)))) else (if a1 = (1 : Int32) then (if a2 = (4 : Int32) then (some (ijn, a2, srim)) else (if a2 = (8 : Int32) then (some (ijn, a2, srim)) else (some ((-2 : Int32), ijn, srim)))) else (some ((-2 : Int32), ijn, srim))))) else (if a1 = (1 : Int32) then (if a2 = (4 : Int32) then (some (ijn, a2, srim)) else (if a2 = (8 : Int32) then (some (ijn, a2, srim)) else (some ((-2 : Int32), ijn, srim)))) else (some ((-2 : Int32), ijn, srim))))
theorem dX7_rule_0 : decode cX7_rule 0 = .ok (.iload_n 1, 1) := by decide +kernel
theorem dX7_rule_1 : decode cX7_rule 1 = .ok (.ifCond .ne 47, 3) := by decide +kernel
theorem dX7_rule_4 : decode cX7_rule 4 = .ok (.iload_n 2, 1) := by decide +kernel
theorem dX7_rule_5 : decode cX7_rule 5 = .ok (.ifCond .eq 8, 3) := by decide +kernel
theorem dX7_rule_8 : decode cX7_rule 8 = .ok (.iload_n 2, 1) := by decide +kernel
theorem dX7_rule_9 : decode cX7_rule 9 = .ok (.iconst 1, 1) := by decide +kernel
theorem dX7_rule_10 : decode cX7_rule 10 = .ok (.if_icmp .ne 38, 3) := by decide +kernel
theorem dX7_rule_13 : decode cX7_rule 13 = .ok (.aload_n 0, 1) := by decide +kernel
theorem dX7_rule_14 : decode cX7_rule 14 = .ok (.getfield 27, 3) := by decide +kernel
theorem dX7_rule_17 : decode cX7_rule 17 = .ok (.getfield 114, 3) := by decide +kernel
theorem dX7_rule_20 : decode cX7_rule 20 = .ok (.ifCond .eq 7, 3) := by decide +kernel
theorem dX7_rule_23 : decode cX7_rule 23 = .ok (.iconst 1, 1) := by decide +kernel
theorem dX7_rule_24 : decode cX7_rule 24 = .ok (.goto 4, 3) := by decide +kernel
theorem dX7_rule_27 : decode cX7_rule 27 = .ok (.iconst 0, 1) := by decide +kernel
theorem dX7_rule_28 : decode cX7_rule 28 = .ok (.istore_n 3, 1) := by decide +kernel
theorem dX7_rule_29 : decode cX7_rule 29 = .ok (.aload_n 0, 1) := by decide +kernel
theorem dX7_rule_30 : decode cX7_rule 30 = .ok (.getfield 27, 3) := by decide +kernel
theorem dX7_rule_33 : decode cX7_rule 33 = .ok (.iload_n 2, 1) := by decide +kernel
theorem dX7_rule_34 : decode cX7_rule 34 = .ok (.iconst 1, 1) := by decide +kernel
theorem dX7_rule_35 : decode cX7_rule 35 = .ok (.if_icmp .ne 7, 3) := by decide +kernel
theorem dX7_rule_38 : decode cX7_rule 38 = .ok (.iconst 1, 1) := by decide +kernel
theorem dX7_rule_39 : decode cX7_rule 39 = .ok (.goto 4, 3) := by decide +kernel
theorem dX7_rule_42 : decode cX7_rule 42 = .ok (.iconst 0, 1) := by decide +kernel
theorem dX7_rule_43 : decode cX7_rule 43 = .ok (.putfield 114, 3) := by decide +kernel
theorem dX7_rule_46 : decode cX7_rule 46 = .ok (.iload_n 3, 1) := by decide +kernel
theorem dX7_rule_47 : decode cX7_rule 47 = .ok (.ireturn, 1) := by decide +kernel
theorem dX7_rule_48 : decode cX7_rule 48 = .ok (.iload_n 1, 1) := by decide +kernel
theorem dX7_rule_49 : decode cX7_rule 49 = .ok (.iconst 1, 1) := by decide +kernel
theorem dX7_rule_50 : decode cX7_rule 50 = .ok (.if_icmp .ne 32, 3) := by decide +kernel
theorem dX7_rule_53 : decode cX7_rule 53 = .ok (.iload_n 2, 1) := by decide +kernel
theorem dX7_rule_54 : decode cX7_rule 54 = .ok (.iconst 4, 1) := by decide +kernel
theorem dX7_rule_55 : decode cX7_rule 55 = .ok (.if_icmp .eq 9, 3) := by decide +kernel
theorem dX7_rule_58 : decode cX7_rule 58 = .ok (.iload_n 2, 1) := by decide +kernel
theorem dX7_rule_59 : decode cX7_rule 59 = .ok (.bipush 8, 2) := by decide +kernel
theorem dX7_rule_61 : decode cX7_rule 61 = .ok (.if_icmp .ne 21, 3) := by decide +kernel
theorem dX7_rule_64 : decode cX7_rule 64 = .ok (.aload_n 0, 1) := by decide +kernel
theorem dX7_rule_65 : decode cX7_rule 65 = .ok (.getfield 50, 3) := by decide +kernel
theorem dX7_rule_68 : decode cX7_rule 68 = .ok (.getfield 118, 3) := by decide +kernel
theorem dX7_rule_71 : decode cX7_rule 71 = .ok (.istore_n 3, 1) := by decide +kernel
theorem dX7_rule_72 : decode cX7_rule 72 = .ok (.aload_n 0, 1) := by decide +kernel
theorem dX7_rule_73 : decode cX7_rule 73 = .ok (.getfield 50, 3) := by decide +kernel
theorem dX7_rule_76 : decode cX7_rule 76 = .ok (.iload_n 2, 1) := by decide +kernel
theorem dX7_rule_77 : decode cX7_rule 77 = .ok (.putfield 118, 3) := by decide +kernel
theorem dX7_rule_80 : decode cX7_rule 80 = .ok (.iload_n 3, 1) := by decide +kernel
theorem dX7_rule_81 : decode cX7_rule 81 = .ok (.ireturn, 1) := by decide +kernel
theorem dX7_rule_82 : decode cX7_rule 82 = .ok (.bipush (-2), 2) := by decide +kernel
theorem dX7_rule_84 : decode cX7_rule 84 = .ok (.ireturn, 1) := by decide +kernel
set_option maxHeartbeats 4000000 in
set_option maxRecDepth 100000 in
theorem bX7_rule {a1 : Int32} {a2 : Int32} {r : Int32} {y_ijn : (Int32)} {y_srim : (Int32)} (hx : p.tables.exec = Jvm.exec) (hb : c.code = cX7_rule) (hml : c.maxLocals = 4) (hown : s.vm.findClass RX7 = some m.cls) (hts : ∀ w ∈ tw, w.before args s = true) (hK : va_K D vwCl [(cI, .int), (cJ, .long), (cG, .object "WornShapes$Program")] s) (hA : ∀ q, s.heap.size ≤ q → A q) (hR : 0 ≤ R.frames ∧ 0 ≤ R.locals ∧ cells ≤ R.cells ∧ slots ≤ R.slots) (hm : mX7_rule srim ijn a1 a2 = some (r, y_ijn, y_srim)) (ls : Array Slot) (hl : lv_has ls 4 [(0, .ref oX), (1, .int a1), (2, .int a2)]) (hP : va_P D vwCl (wdX cJ cG cI oX oXp oXg oG0 oGa0 oG1 oGa1 oG2 oGa2 oQ oQw oI oR oRh oRm oB oBw oS oSs oF oFr oFs oFc oFw xpi gs0 ga0 gs1 ga1 gs2 ga2 qln qwy ijn rsz rhi rmi bsz bfi bla bar bwi srim sst fw fc fwh fbo fra fst fco fro) H) (hD : va_D A (wdX cJ cG cI oX oXp oXg oG0 oGa0 oG1 oGa1 oG2 oGa2 oQ oQw oI oR oRh oRm oB oBw oS oSs oF oFr oFs oFc oFw xpi gs0 ga0 gs1 ga1 gs2 ga2 qln qwy ijn rsz rhi rmi bsz bfi bla bar bwi srim sst fw fc fwh fbo fra fst fco fro)) (hS : va_S A s.heap H locs) (K : ∀ (pc : Nat) (ls : Array Slot) (H : Heap) (locs : List Loc), decode cX7_rule pc = .ok (.ireturn, 1) → va_P D vwCl (wdX cJ cG cI oX oXp oXg oG0 oGa0 oG1 oGa1 oG2 oGa2 oQ oQw oI oR oRh oRm oB oBw oS oSs oF oFr oFs oFc oFw xpi gs0 ga0 gs1 ga1 gs2 ga2 qln qwy y_ijn rsz rhi rmi bsz bfi bla bar bwi y_srim sst fw fc fwh fbo fra fst fco fro) H → va_D A (wdX cJ cG cI oX oXp oXg oG0 oGa0 oG1 oGa1 oG2 oGa2 oQ oQw oI oR oRh oRm oB oBw oS oSs oF oFr oFs oFc oFw xpi gs0 ga0 gs1 ga1 gs2 ga2 qln qwy y_ijn rsz rhi rmi bsz bfi bla bar bwi y_srim sst fw fc fwh fbo fra fst fco fro) → va_S A s.heap H locs → W p l e R s m args below meth c H locs cells slots Q (F0 m pc ls [.int r])) : W p l e R s m args below meth c H locs cells slots Q (F0 m 0 ls []) := by
  unfold mX7_rule at hm
  refine lv_iload_n hx hb dX7_rule_0 rfl (lv_at hl 1 rfl) ?_
  refine lv_if_ne (tgt := 48) hx hb dX7_rule_1 (by decide) (fun c1 => ?_) (fun c1 => ?_)
  · rw [if_neg c1] at hm
    refine lv_iload_n hx hb dX7_rule_48 rfl (lv_at hl 1 rfl) ?_
    refine lv_iconst (v := (1 : Int32)) hx hb dX7_rule_49 (by decide) ?_
    refine lv_icmp_ne (tgt := 82) hx hb dX7_rule_50 (by decide) (fun c2 => ?_) (fun c2 => ?_)
    · rw [if_neg c2] at hm
      refine lv_bipush (v := (-2 : Int32)) hx hb dX7_rule_82 (by decide) ?_
      have hm := Option.some.inj hm
      have e9 : r = (-2 : Int32) := (congrArg (fun q => q.1) hm).symm
      rw [e9] at K
      have e9 : y_ijn = ijn := (congrArg (fun q => q.2.1) hm).symm
      rw [e9] at K
      have e9 : y_srim = srim := (congrArg (fun q => q.2.2) hm).symm
      rw [e9] at K
      exact K 84 ls _ _ dX7_rule_84 hP hD hS
    · rw [if_pos c2] at hm
      refine lv_iload_n hx hb dX7_rule_53 rfl (lv_at hl 2 rfl) ?_
      refine lv_iconst (v := (4 : Int32)) hx hb dX7_rule_54 (by decide) ?_
      refine lv_icmp_eq (tgt := 64) hx hb dX7_rule_55 (by decide) (fun c3 => ?_) (fun c3 => ?_)
      · rw [if_pos c3] at hm
        refine lv_aload_n hx hb dX7_rule_64 rfl (lv_at hl 0 rfl) ?_
        refine va_get (D := D) (ci := 7) (v := .ref oI) (C := RX7) (T := TX7) (N := 8) hx hb hts tnX7 hown hK hP 0 rfl rfl 5 (by decide) (hts _ qw_325) (fun _ h9 => h9) rfl dX7_rule_65 ?_
        refine va_get (D := D) (ci := 3) (v := .int ijn) (C := RX3) (T := TX3) (N := 2) hx hb hts tnX3 hown hK hP 11 rfl rfl 1 (by decide) (hts _ qw_411) (fun _ h9 => h9) rfl dX7_rule_68 ?_
        refine lv_istore_n (lv' := [(3, .int ijn), (0, .ref oX), (1, .int a1), (2, .int a2)]) hx hb dX7_rule_71 rfl hl (by decide) rfl (fun ls hl => ?_)
        refine lv_aload_n hx hb dX7_rule_72 rfl (lv_at hl 1 rfl) ?_
        refine va_get (D := D) (ci := 7) (v := .ref oI) (C := RX7) (T := TX7) (N := 8) hx hb hts tnX7 hown hK hP 0 rfl rfl 5 (by decide) (hts _ qw_325) (fun _ h9 => h9) rfl dX7_rule_73 ?_
        refine lv_iload_n hx hb dX7_rule_76 rfl (lv_at hl 3 rfl) ?_
        refine va_put (D := D) (ci := 3) (v := .int a2) (ty := .int) (C := RX3) (T := TX3) (N := 2) hx hb hts tnX3 tyX3 tyX3_ok nmX3 hown hK hP hD hS 11 rfl rfl 1 (by decide) (hts _ qw_411) (fun _ h9 => h9) rfl (by decide +kernel) rfl rfl (Nat.le_of_ble_eq_true rfl) dX7_rule_77 (fun H locs hP hD hS => ?_)
        have hP : va_P D vwCl (wdX cJ cG cI oX oXp oXg oG0 oGa0 oG1 oGa1 oG2 oGa2 oQ oQw oI oR oRh oRm oB oBw oS oSs oF oFr oFs oFc oFw xpi gs0 ga0 gs1 ga1 gs2 ga2 qln qwy a2 rsz rhi rmi bsz bfi bla bar bwi srim sst fw fc fwh fbo fra fst fco fro) H := hP
        have hD : va_D A (wdX cJ cG cI oX oXp oXg oG0 oGa0 oG1 oGa1 oG2 oGa2 oQ oQw oI oR oRh oRm oB oBw oS oSs oF oFr oFs oFc oFw xpi gs0 ga0 gs1 ga1 gs2 ga2 qln qwy a2 rsz rhi rmi bsz bfi bla bar bwi srim sst fw fc fwh fbo fra fst fco fro) := hD
        refine lv_iload_n hx hb dX7_rule_80 rfl (lv_at hl 0 rfl) ?_
        have hm := Option.some.inj hm
        have e9 : r = ijn := (congrArg (fun q => q.1) hm).symm
        rw [e9] at K
        have e9 : y_ijn = a2 := (congrArg (fun q => q.2.1) hm).symm
        rw [e9] at K
        have e9 : y_srim = srim := (congrArg (fun q => q.2.2) hm).symm
        rw [e9] at K
        exact K 81 ls _ _ dX7_rule_81 hP hD hS
      · rw [if_neg c3] at hm
        refine lv_iload_n hx hb dX7_rule_58 rfl (lv_at hl 2 rfl) ?_
        refine lv_bipush (v := (8 : Int32)) hx hb dX7_rule_59 (by decide) ?_
        refine lv_icmp_ne (tgt := 82) hx hb dX7_rule_61 (by decide) (fun c4 => ?_) (fun c4 => ?_)
        · rw [if_neg c4] at hm
          refine lv_bipush (v := (-2 : Int32)) hx hb dX7_rule_82 (by decide) ?_
          have hm := Option.some.inj hm
          have e9 : r = (-2 : Int32) := (congrArg (fun q => q.1) hm).symm
          rw [e9] at K
          have e9 : y_ijn = ijn := (congrArg (fun q => q.2.1) hm).symm
          rw [e9] at K
          have e9 : y_srim = srim := (congrArg (fun q => q.2.2) hm).symm
          rw [e9] at K
          exact K 84 ls _ _ dX7_rule_84 hP hD hS
        · rw [if_pos c4] at hm
          refine lv_aload_n hx hb dX7_rule_64 rfl (lv_at hl 0 rfl) ?_
          refine va_get (D := D) (ci := 7) (v := .ref oI) (C := RX7) (T := TX7) (N := 8) hx hb hts tnX7 hown hK hP 0 rfl rfl 5 (by decide) (hts _ qw_325) (fun _ h9 => h9) rfl dX7_rule_65 ?_
          refine va_get (D := D) (ci := 3) (v := .int ijn) (C := RX3) (T := TX3) (N := 2) hx hb hts tnX3 hown hK hP 11 rfl rfl 1 (by decide) (hts _ qw_411) (fun _ h9 => h9) rfl dX7_rule_68 ?_
          refine lv_istore_n (lv' := [(3, .int ijn), (0, .ref oX), (1, .int a1), (2, .int a2)]) hx hb dX7_rule_71 rfl hl (by decide) rfl (fun ls hl => ?_)
          refine lv_aload_n hx hb dX7_rule_72 rfl (lv_at hl 1 rfl) ?_
          refine va_get (D := D) (ci := 7) (v := .ref oI) (C := RX7) (T := TX7) (N := 8) hx hb hts tnX7 hown hK hP 0 rfl rfl 5 (by decide) (hts _ qw_325) (fun _ h9 => h9) rfl dX7_rule_73 ?_
          refine lv_iload_n hx hb dX7_rule_76 rfl (lv_at hl 3 rfl) ?_
          refine va_put (D := D) (ci := 3) (v := .int a2) (ty := .int) (C := RX3) (T := TX3) (N := 2) hx hb hts tnX3 tyX3 tyX3_ok nmX3 hown hK hP hD hS 11 rfl rfl 1 (by decide) (hts _ qw_411) (fun _ h9 => h9) rfl (by decide +kernel) rfl rfl (Nat.le_of_ble_eq_true rfl) dX7_rule_77 (fun H locs hP hD hS => ?_)
          have hP : va_P D vwCl (wdX cJ cG cI oX oXp oXg oG0 oGa0 oG1 oGa1 oG2 oGa2 oQ oQw oI oR oRh oRm oB oBw oS oSs oF oFr oFs oFc oFw xpi gs0 ga0 gs1 ga1 gs2 ga2 qln qwy a2 rsz rhi rmi bsz bfi bla bar bwi srim sst fw fc fwh fbo fra fst fco fro) H := hP
          have hD : va_D A (wdX cJ cG cI oX oXp oXg oG0 oGa0 oG1 oGa1 oG2 oGa2 oQ oQw oI oR oRh oRm oB oBw oS oSs oF oFr oFs oFc oFw xpi gs0 ga0 gs1 ga1 gs2 ga2 qln qwy a2 rsz rhi rmi bsz bfi bla bar bwi srim sst fw fc fwh fbo fra fst fco fro) := hD
          refine lv_iload_n hx hb dX7_rule_80 rfl (lv_at hl 0 rfl) ?_
          have hm := Option.some.inj hm
          have e9 : r = ijn := (congrArg (fun q => q.1) hm).symm
          rw [e9] at K
          have e9 : y_ijn = a2 := (congrArg (fun q => q.2.1) hm).symm
          rw [e9] at K
          have e9 : y_srim = srim := (congrArg (fun q => q.2.2) hm).symm
          rw [e9] at K
          exact K 81 ls _ _ dX7_rule_81 hP hD hS
  · rw [if_pos c1] at hm
    refine lv_iload_n hx hb dX7_rule_4 rfl (lv_at hl 2 rfl) ?_
    refine lv_if_eq (tgt := 13) hx hb dX7_rule_5 (by decide) (fun c5 => ?_) (fun c5 => ?_)
    · rw [if_pos c5] at hm
      refine lv_aload_n hx hb dX7_rule_13 rfl (lv_at hl 0 rfl) ?_
      refine va_get (D := D) (ci := 7) (v := .ref oS) (C := RX7) (T := TX7) (N := 8) hx hb hts tnX7 hown hK hP 0 rfl rfl 2 (by decide) (hts _ qw_312) (fun _ h9 => h9) rfl dX7_rule_14 ?_
      refine va_get (D := D) (ci := 6) (v := .int srim) (C := RX6) (T := TX6) (N := 3) hx hb hts tnX6 hown hK hP 17 rfl rfl 2 (by decide) (hts _ qw_412) (fun _ h9 => h9) rfl dX7_rule_17 ?_
      obtain ⟨j6, hi7, hm⟩ := jl_out hm
      have key8 : ∀ (ls : Array Slot), lv_has ls 4 [(0, .ref oX), (2, .int a2)] → W p l e R s m args below meth c H locs cells slots Q (F0 m 28 ls [.int j6]) := by
        intro ls hl
        refine lv_istore_n (lv' := [(3, .int j6), (0, .ref oX), (2, .int a2)]) hx hb dX7_rule_28 rfl hl (by decide) rfl (fun ls hl => ?_)
        refine lv_aload_n hx hb dX7_rule_29 rfl (lv_at hl 1 rfl) ?_
        refine va_get (D := D) (ci := 7) (v := .ref oS) (C := RX7) (T := TX7) (N := 8) hx hb hts tnX7 hown hK hP 0 rfl rfl 2 (by decide) (hts _ qw_312) (fun _ h9 => h9) rfl dX7_rule_30 ?_
        refine lv_iload_n hx hb dX7_rule_33 rfl (lv_at hl 2 rfl) ?_
        refine lv_iconst (v := (1 : Int32)) hx hb dX7_rule_34 (by decide) ?_
        obtain ⟨j10, hi11, hm⟩ := jl_out hm
        have key12 : ∀ (ls : Array Slot), lv_has ls 4 [(3, .int j6)] → W p l e R s m args below meth c H locs cells slots Q (F0 m 43 ls [.int j10, .ref oS]) := by
          intro ls hl
          refine va_put (D := D) (ci := 6) (v := .int j10) (ty := .boolean) (C := RX6) (T := TX6) (N := 3) hx hb hts tnX6 tyX6 tyX6_ok nmX6 hown hK hP hD hS 17 rfl rfl 2 (by decide) (hts _ qw_412) (fun _ h9 => h9) rfl (by decide +kernel) (by rw [hi11]; split <;> rfl) (by rw [hi11]; split <;> rfl) (Nat.le_of_ble_eq_true rfl) dX7_rule_43 (fun H locs hP hD hS => ?_)
          have hP : va_P D vwCl (wdX cJ cG cI oX oXp oXg oG0 oGa0 oG1 oGa1 oG2 oGa2 oQ oQw oI oR oRh oRm oB oBw oS oSs oF oFr oFs oFc oFw xpi gs0 ga0 gs1 ga1 gs2 ga2 qln qwy ijn rsz rhi rmi bsz bfi bla bar bwi j10 sst fw fc fwh fbo fra fst fco fro) H := hP
          have hD : va_D A (wdX cJ cG cI oX oXp oXg oG0 oGa0 oG1 oGa1 oG2 oGa2 oQ oQw oI oR oRh oRm oB oBw oS oSs oF oFr oFs oFc oFw xpi gs0 ga0 gs1 ga1 gs2 ga2 qln qwy ijn rsz rhi rmi bsz bfi bla bar bwi j10 sst fw fc fwh fbo fra fst fco fro) := hD
          refine lv_iload_n hx hb dX7_rule_46 rfl (lv_at hl 0 rfl) ?_
          have hm := Option.some.inj hm
          have e9 : r = j6 := (congrArg (fun q => q.1) hm).symm
          rw [e9] at K
          have e9 : y_ijn = ijn := (congrArg (fun q => q.2.1) hm).symm
          rw [e9] at K
          have e9 : y_srim = j10 := (congrArg (fun q => q.2.2) hm).symm
          rw [e9] at K
          exact K 47 ls _ _ dX7_rule_47 hP hD hS
        refine lv_icmp_ne (tgt := 42) hx hb dX7_rule_35 (by decide) (fun c13 => ?_) (fun c13 => ?_)
        · rw [if_neg c13] at hi11
          refine lv_iconst (v := (0 : Int32)) hx hb dX7_rule_42 (by decide) ?_
          rw [hi11] at key12
          exact key12 ls (lv_sub hl [0] rfl)
        · rw [if_pos c13] at hi11
          refine lv_iconst (v := (1 : Int32)) hx hb dX7_rule_38 (by decide) ?_
          refine lv_goto (tgt := 43) hx hb dX7_rule_39 (by decide) ?_
          rw [hi11] at key12
          exact key12 ls (lv_sub hl [0] rfl)
      refine lv_if_eq (tgt := 27) hx hb dX7_rule_20 (by decide) (fun c9 => ?_) (fun c9 => ?_)
      · rw [if_pos c9] at hi7
        refine lv_iconst (v := (0 : Int32)) hx hb dX7_rule_27 (by decide) ?_
        rw [hi7] at key8
        exact key8 ls (lv_sub hl [0, 2] rfl)
      · rw [if_neg c9] at hi7
        refine lv_iconst (v := (1 : Int32)) hx hb dX7_rule_23 (by decide) ?_
        refine lv_goto (tgt := 28) hx hb dX7_rule_24 (by decide) ?_
        rw [hi7] at key8
        exact key8 ls (lv_sub hl [0, 2] rfl)
    · rw [if_neg c5] at hm
      refine lv_iload_n hx hb dX7_rule_8 rfl (lv_at hl 2 rfl) ?_
      refine lv_iconst (v := (1 : Int32)) hx hb dX7_rule_9 (by decide) ?_
      refine lv_icmp_ne (tgt := 48) hx hb dX7_rule_10 (by decide) (fun c14 => ?_) (fun c14 => ?_)
      · rw [if_neg c14] at hm
        refine lv_iload_n hx hb dX7_rule_48 rfl (lv_at hl 1 rfl) ?_
        refine lv_iconst (v := (1 : Int32)) hx hb dX7_rule_49 (by decide) ?_
        refine lv_icmp_ne (tgt := 82) hx hb dX7_rule_50 (by decide) (fun c15 => ?_) (fun c15 => ?_)
        · rw [if_neg c15] at hm
          refine lv_bipush (v := (-2 : Int32)) hx hb dX7_rule_82 (by decide) ?_
          have hm := Option.some.inj hm
          have e9 : r = (-2 : Int32) := (congrArg (fun q => q.1) hm).symm
          rw [e9] at K
          have e9 : y_ijn = ijn := (congrArg (fun q => q.2.1) hm).symm
          rw [e9] at K
          have e9 : y_srim = srim := (congrArg (fun q => q.2.2) hm).symm
          rw [e9] at K
          exact K 84 ls _ _ dX7_rule_84 hP hD hS
        · rw [if_pos c15] at hm
          refine lv_iload_n hx hb dX7_rule_53 rfl (lv_at hl 2 rfl) ?_
          refine lv_iconst (v := (4 : Int32)) hx hb dX7_rule_54 (by decide) ?_
          refine lv_icmp_eq (tgt := 64) hx hb dX7_rule_55 (by decide) (fun c16 => ?_) (fun c16 => ?_)
          · rw [if_pos c16] at hm
            refine lv_aload_n hx hb dX7_rule_64 rfl (lv_at hl 0 rfl) ?_
            refine va_get (D := D) (ci := 7) (v := .ref oI) (C := RX7) (T := TX7) (N := 8) hx hb hts tnX7 hown hK hP 0 rfl rfl 5 (by decide) (hts _ qw_325) (fun _ h9 => h9) rfl dX7_rule_65 ?_
            refine va_get (D := D) (ci := 3) (v := .int ijn) (C := RX3) (T := TX3) (N := 2) hx hb hts tnX3 hown hK hP 11 rfl rfl 1 (by decide) (hts _ qw_411) (fun _ h9 => h9) rfl dX7_rule_68 ?_
            refine lv_istore_n (lv' := [(3, .int ijn), (0, .ref oX), (1, .int a1), (2, .int a2)]) hx hb dX7_rule_71 rfl hl (by decide) rfl (fun ls hl => ?_)
            refine lv_aload_n hx hb dX7_rule_72 rfl (lv_at hl 1 rfl) ?_
            refine va_get (D := D) (ci := 7) (v := .ref oI) (C := RX7) (T := TX7) (N := 8) hx hb hts tnX7 hown hK hP 0 rfl rfl 5 (by decide) (hts _ qw_325) (fun _ h9 => h9) rfl dX7_rule_73 ?_
            refine lv_iload_n hx hb dX7_rule_76 rfl (lv_at hl 3 rfl) ?_
            refine va_put (D := D) (ci := 3) (v := .int a2) (ty := .int) (C := RX3) (T := TX3) (N := 2) hx hb hts tnX3 tyX3 tyX3_ok nmX3 hown hK hP hD hS 11 rfl rfl 1 (by decide) (hts _ qw_411) (fun _ h9 => h9) rfl (by decide +kernel) rfl rfl (Nat.le_of_ble_eq_true rfl) dX7_rule_77 (fun H locs hP hD hS => ?_)
            have hP : va_P D vwCl (wdX cJ cG cI oX oXp oXg oG0 oGa0 oG1 oGa1 oG2 oGa2 oQ oQw oI oR oRh oRm oB oBw oS oSs oF oFr oFs oFc oFw xpi gs0 ga0 gs1 ga1 gs2 ga2 qln qwy a2 rsz rhi rmi bsz bfi bla bar bwi srim sst fw fc fwh fbo fra fst fco fro) H := hP
            have hD : va_D A (wdX cJ cG cI oX oXp oXg oG0 oGa0 oG1 oGa1 oG2 oGa2 oQ oQw oI oR oRh oRm oB oBw oS oSs oF oFr oFs oFc oFw xpi gs0 ga0 gs1 ga1 gs2 ga2 qln qwy a2 rsz rhi rmi bsz bfi bla bar bwi srim sst fw fc fwh fbo fra fst fco fro) := hD
            refine lv_iload_n hx hb dX7_rule_80 rfl (lv_at hl 0 rfl) ?_
            have hm := Option.some.inj hm
            have e9 : r = ijn := (congrArg (fun q => q.1) hm).symm
            rw [e9] at K
            have e9 : y_ijn = a2 := (congrArg (fun q => q.2.1) hm).symm
            rw [e9] at K
            have e9 : y_srim = srim := (congrArg (fun q => q.2.2) hm).symm
            rw [e9] at K
            exact K 81 ls _ _ dX7_rule_81 hP hD hS
          · rw [if_neg c16] at hm
            refine lv_iload_n hx hb dX7_rule_58 rfl (lv_at hl 2 rfl) ?_
            refine lv_bipush (v := (8 : Int32)) hx hb dX7_rule_59 (by decide) ?_
            refine lv_icmp_ne (tgt := 82) hx hb dX7_rule_61 (by decide) (fun c17 => ?_) (fun c17 => ?_)
            · rw [if_neg c17] at hm
              refine lv_bipush (v := (-2 : Int32)) hx hb dX7_rule_82 (by decide) ?_
              have hm := Option.some.inj hm
              have e9 : r = (-2 : Int32) := (congrArg (fun q => q.1) hm).symm
              rw [e9] at K
              have e9 : y_ijn = ijn := (congrArg (fun q => q.2.1) hm).symm
              rw [e9] at K
              have e9 : y_srim = srim := (congrArg (fun q => q.2.2) hm).symm
              rw [e9] at K
              exact K 84 ls _ _ dX7_rule_84 hP hD hS
            · rw [if_pos c17] at hm
              refine lv_aload_n hx hb dX7_rule_64 rfl (lv_at hl 0 rfl) ?_
              refine va_get (D := D) (ci := 7) (v := .ref oI) (C := RX7) (T := TX7) (N := 8) hx hb hts tnX7 hown hK hP 0 rfl rfl 5 (by decide) (hts _ qw_325) (fun _ h9 => h9) rfl dX7_rule_65 ?_
              refine va_get (D := D) (ci := 3) (v := .int ijn) (C := RX3) (T := TX3) (N := 2) hx hb hts tnX3 hown hK hP 11 rfl rfl 1 (by decide) (hts _ qw_411) (fun _ h9 => h9) rfl dX7_rule_68 ?_
              refine lv_istore_n (lv' := [(3, .int ijn), (0, .ref oX), (1, .int a1), (2, .int a2)]) hx hb dX7_rule_71 rfl hl (by decide) rfl (fun ls hl => ?_)
              refine lv_aload_n hx hb dX7_rule_72 rfl (lv_at hl 1 rfl) ?_
              refine va_get (D := D) (ci := 7) (v := .ref oI) (C := RX7) (T := TX7) (N := 8) hx hb hts tnX7 hown hK hP 0 rfl rfl 5 (by decide) (hts _ qw_325) (fun _ h9 => h9) rfl dX7_rule_73 ?_
              refine lv_iload_n hx hb dX7_rule_76 rfl (lv_at hl 3 rfl) ?_
              refine va_put (D := D) (ci := 3) (v := .int a2) (ty := .int) (C := RX3) (T := TX3) (N := 2) hx hb hts tnX3 tyX3 tyX3_ok nmX3 hown hK hP hD hS 11 rfl rfl 1 (by decide) (hts _ qw_411) (fun _ h9 => h9) rfl (by decide +kernel) rfl rfl (Nat.le_of_ble_eq_true rfl) dX7_rule_77 (fun H locs hP hD hS => ?_)
              have hP : va_P D vwCl (wdX cJ cG cI oX oXp oXg oG0 oGa0 oG1 oGa1 oG2 oGa2 oQ oQw oI oR oRh oRm oB oBw oS oSs oF oFr oFs oFc oFw xpi gs0 ga0 gs1 ga1 gs2 ga2 qln qwy a2 rsz rhi rmi bsz bfi bla bar bwi srim sst fw fc fwh fbo fra fst fco fro) H := hP
              have hD : va_D A (wdX cJ cG cI oX oXp oXg oG0 oGa0 oG1 oGa1 oG2 oGa2 oQ oQw oI oR oRh oRm oB oBw oS oSs oF oFr oFs oFc oFw xpi gs0 ga0 gs1 ga1 gs2 ga2 qln qwy a2 rsz rhi rmi bsz bfi bla bar bwi srim sst fw fc fwh fbo fra fst fco fro) := hD
              refine lv_iload_n hx hb dX7_rule_80 rfl (lv_at hl 0 rfl) ?_
              have hm := Option.some.inj hm
              have e9 : r = ijn := (congrArg (fun q => q.1) hm).symm
              rw [e9] at K
              have e9 : y_ijn = a2 := (congrArg (fun q => q.2.1) hm).symm
              rw [e9] at K
              have e9 : y_srim = srim := (congrArg (fun q => q.2.2) hm).symm
              rw [e9] at K
              exact K 81 ls _ _ dX7_rule_81 hP hD hS
      · rw [if_pos c14] at hm
        refine lv_aload_n hx hb dX7_rule_13 rfl (lv_at hl 0 rfl) ?_
        refine va_get (D := D) (ci := 7) (v := .ref oS) (C := RX7) (T := TX7) (N := 8) hx hb hts tnX7 hown hK hP 0 rfl rfl 2 (by decide) (hts _ qw_312) (fun _ h9 => h9) rfl dX7_rule_14 ?_
        refine va_get (D := D) (ci := 6) (v := .int srim) (C := RX6) (T := TX6) (N := 3) hx hb hts tnX6 hown hK hP 17 rfl rfl 2 (by decide) (hts _ qw_412) (fun _ h9 => h9) rfl dX7_rule_17 ?_
        obtain ⟨j18, hi19, hm⟩ := jl_out hm
        have key20 : ∀ (ls : Array Slot), lv_has ls 4 [(0, .ref oX), (2, .int a2)] → W p l e R s m args below meth c H locs cells slots Q (F0 m 28 ls [.int j18]) := by
          intro ls hl
          refine lv_istore_n (lv' := [(3, .int j18), (0, .ref oX), (2, .int a2)]) hx hb dX7_rule_28 rfl hl (by decide) rfl (fun ls hl => ?_)
          refine lv_aload_n hx hb dX7_rule_29 rfl (lv_at hl 1 rfl) ?_
          refine va_get (D := D) (ci := 7) (v := .ref oS) (C := RX7) (T := TX7) (N := 8) hx hb hts tnX7 hown hK hP 0 rfl rfl 2 (by decide) (hts _ qw_312) (fun _ h9 => h9) rfl dX7_rule_30 ?_
          refine lv_iload_n hx hb dX7_rule_33 rfl (lv_at hl 2 rfl) ?_
          refine lv_iconst (v := (1 : Int32)) hx hb dX7_rule_34 (by decide) ?_
          obtain ⟨j22, hi23, hm⟩ := jl_out hm
          have key24 : ∀ (ls : Array Slot), lv_has ls 4 [(3, .int j18)] → W p l e R s m args below meth c H locs cells slots Q (F0 m 43 ls [.int j22, .ref oS]) := by
            intro ls hl
            refine va_put (D := D) (ci := 6) (v := .int j22) (ty := .boolean) (C := RX6) (T := TX6) (N := 3) hx hb hts tnX6 tyX6 tyX6_ok nmX6 hown hK hP hD hS 17 rfl rfl 2 (by decide) (hts _ qw_412) (fun _ h9 => h9) rfl (by decide +kernel) (by rw [hi23]; split <;> rfl) (by rw [hi23]; split <;> rfl) (Nat.le_of_ble_eq_true rfl) dX7_rule_43 (fun H locs hP hD hS => ?_)
            have hP : va_P D vwCl (wdX cJ cG cI oX oXp oXg oG0 oGa0 oG1 oGa1 oG2 oGa2 oQ oQw oI oR oRh oRm oB oBw oS oSs oF oFr oFs oFc oFw xpi gs0 ga0 gs1 ga1 gs2 ga2 qln qwy ijn rsz rhi rmi bsz bfi bla bar bwi j22 sst fw fc fwh fbo fra fst fco fro) H := hP
            have hD : va_D A (wdX cJ cG cI oX oXp oXg oG0 oGa0 oG1 oGa1 oG2 oGa2 oQ oQw oI oR oRh oRm oB oBw oS oSs oF oFr oFs oFc oFw xpi gs0 ga0 gs1 ga1 gs2 ga2 qln qwy ijn rsz rhi rmi bsz bfi bla bar bwi j22 sst fw fc fwh fbo fra fst fco fro) := hD
            refine lv_iload_n hx hb dX7_rule_46 rfl (lv_at hl 0 rfl) ?_
            have hm := Option.some.inj hm
            have e9 : r = j18 := (congrArg (fun q => q.1) hm).symm
            rw [e9] at K
            have e9 : y_ijn = ijn := (congrArg (fun q => q.2.1) hm).symm
            rw [e9] at K
            have e9 : y_srim = j22 := (congrArg (fun q => q.2.2) hm).symm
            rw [e9] at K
            exact K 47 ls _ _ dX7_rule_47 hP hD hS
          refine lv_icmp_ne (tgt := 42) hx hb dX7_rule_35 (by decide) (fun c25 => ?_) (fun c25 => ?_)
          · rw [if_neg c25] at hi23
            refine lv_iconst (v := (0 : Int32)) hx hb dX7_rule_42 (by decide) ?_
            rw [hi23] at key24
            exact key24 ls (lv_sub hl [0] rfl)
          · rw [if_pos c25] at hi23
            refine lv_iconst (v := (1 : Int32)) hx hb dX7_rule_38 (by decide) ?_
            refine lv_goto (tgt := 43) hx hb dX7_rule_39 (by decide) ?_
            rw [hi23] at key24
            exact key24 ls (lv_sub hl [0] rfl)
        refine lv_if_eq (tgt := 27) hx hb dX7_rule_20 (by decide) (fun c21 => ?_) (fun c21 => ?_)
        · rw [if_pos c21] at hi19
          refine lv_iconst (v := (0 : Int32)) hx hb dX7_rule_27 (by decide) ?_
          rw [hi19] at key20
          exact key20 ls (lv_sub hl [0, 2] rfl)
        · rw [if_neg c21] at hi19
          refine lv_iconst (v := (1 : Int32)) hx hb dX7_rule_23 (by decide) ?_
          refine lv_goto (tgt := 28) hx hb dX7_rule_24 (by decide) ?_
          rw [hi19] at key20
          exact key20 ls (lv_sub hl [0, 2] rfl)
set_option maxHeartbeats 4000000 in
set_option maxRecDepth 100000 in
theorem tX7_rule (l : Launch) {D : va_G} (sz : Nat) {a1 : Int32} {a2 : Int32} {r : Int32} {y_ijn : (Int32)} {y_srim : (Int32)} (hm : mX7_rule srim ijn a1 a2 = some (r, y_ijn, y_srim)) : Met l yX7_rule (.code yX7_rule cX7_rule 4 (some .int) :: tw) ({ frames := 0, cells := 0, slots := 0, locals := 0 } : Room) (wrP D [.ref oX, .int a1, .int a2] (wdX cJ cG cI oX oXp oXg oG0 oGa0 oG1 oGa1 oG2 oGa2 oQ oQw oI oR oRh oRm oB oBw oS oSs oF oFr oFs oFc oFw xpi gs0 ga0 gs1 ga1 gs2 ga2 qln qwy ijn rsz rhi rmi bsz bfi bla bar bwi srim sst fw fc fwh fbo fra fst fco fro) [(cI, .int), (cJ, .long), (cG, .object "WornShapes$Program")] sz) (va_Qi (fun q (_ : Unit) => q = r) (fun (_ : Unit) (t : State) => va_P D vwCl (wdX cJ cG cI oX oXp oXg oG0 oGa0 oG1 oGa1 oG2 oGa2 oQ oQw oI oR oRh oRm oB oBw oS oSs oF oFr oFs oFc oFw xpi gs0 ga0 gs1 ga1 gs2 ga2 qln qwy y_ijn rsz rhi rmi bsz bfi bla bar bwi y_srim sst fw fc fwh fbo fra fst fco fro) t.heap ∧ va_K D vwCl [(cI, .int), (cJ, .long), (cG, .object "WornShapes$Program")] t ∧ va_D (va_A (wdX cJ cG cI oX oXp oXg oG0 oGa0 oG1 oGa1 oG2 oGa2 oQ oQw oI oR oRh oRm oB oBw oS oSs oF oFr oFs oFc oFw xpi gs0 ga0 gs1 ga1 gs2 ga2 qln qwy ijn rsz rhi rmi bsz bfi bla bar bwi srim sst fw fc fwh fbo fra fst fco fro) sz) (wdX cJ cG cI oX oXp oXg oG0 oGa0 oG1 oGa1 oG2 oGa2 oQ oQw oI oR oRh oRm oB oBw oS oSs oF oFr oFs oFc oFw xpi gs0 ga0 gs1 ga1 gs2 ga2 qln qwy y_ijn rsz rhi rmi bsz bfi bla bar bwi y_srim sst fw fc fwh fbo fra fst fco fro)) (va_A (wdX cJ cG cI oX oXp oXg oG0 oGa0 oG1 oGa1 oG2 oGa2 oQ oQw oI oR oRh oRm oB oBw oS oSs oF oFr oFs oFc oFw xpi gs0 ga0 gs1 ga1 gs2 ga2 qln qwy ijn rsz rhi rmi bsz bfi bla bar bwi srim sst fw fc fwh fbo fra fst fco fro) sz)) 0 0 (va_A (wdX cJ cG cI oX oXp oXg oG0 oGa0 oG1 oGa1 oG2 oGa2 oQ oQw oI oR oRh oRm oB oBw oS oSs oF oFr oFs oFc oFw xpi gs0 ga0 gs1 ga1 gs2 ga2 qln qwy ijn rsz rhi rmi bsz bfi bla bar bwi srim sst fw fc fwh fbo fra fst fco fro) sz) := by
  refine Met.ofW (cc := cX7_rule) (maxL := 4) (ret := (some .int)) (by decide) rfl ?_
  intro p e s m args below meth c s₁ B hml hv
  obtain ⟨rfl, hsz, hP, hK, hD0⟩ := hv
  have hx := B.exec
  have hb := B.bytes
  have hr := B.returns
  have hts : ∀ w ∈ tw, w.before _ s = true := fun w h => atoms_spec (ws := .code yX7_rule cX7_rule 4 (some .int) :: tw) B.pre w (List.mem_cons_of_mem _ h)
  have hown : s.vm.findClass RX7 = some m.cls := findClass_of_methodNamed B.named
  have hlocks := B.notSynchronized
  subst hsz
  have hD := hD0.self (sz := s.heap.size)
  have hl := lv_entry ([.ref oX, .int a1, .int a2]) (n := 4) (Nat.le_of_ble_eq_true rfl)
  rw [lg_entry_eq]
  generalize (lg_sl ([.ref oX, .int a1, .int a2]) ++ List.replicate (4 - (lg_sl ([.ref oX, .int a1, .int a2])).length) Slot.unset).toArray = ls at hl ⊢
  refine bX7_rule hx hb hml hown hts hK (fun q h => Or.inr h) ⟨Nat.le_of_ble_eq_true rfl, Nat.le_of_ble_eq_true rfl, Nat.zero_le _, Nat.zero_le _⟩ hm ls hl hP hD va_S.rf (fun pc ls H locs hd hP hD hS => ?_)
  exact W.iret hx hb hr (fun t ht hW => ⟨⟨r, (), rfl, rfl, by rw [ht]; exact hP, va_K.moved hW.alike hK, hD⟩, hS.F ht⟩) hS.2.2 hd
set_option maxHeartbeats 4000000 in
set_option maxRecDepth 100000 in
theorem kX7_rule {own : String} {cc : ByteArray} {nL idx pc : Nat} {ls : Array Slot} {rest : List Value} {ws wr : va_W} {a1 : Int32} {a2 : Int32} {r : Int32} {y_ijn : (Int32)} {y_srim : (Int32)} (fx : CallFix p m c cc nL s args tw own) (hq : Cond.methodLink own idx yX7_rule ∈ tw) (isC isR : List Nat) (hC : isC.map (fun i => ws[i]?) = ((wdX cJ cG cI oX oXp oXg oG0 oGa0 oG1 oGa1 oG2 oGa2 oQ oQw oI oR oRh oRm oB oBw oS oSs oF oFr oFs oFc oFw xpi gs0 ga0 gs1 ga1 gs2 ga2 qln qwy ijn rsz rhi rmi bsz bfi bla bar bwi srim sst fw fc fwh fbo fra fst fco fro) : va_W).map some) (hRr : isR.map (fun i => ws[i]?) = wr.map some) (hnC : va_nd isC = true) (hn : va_nd isR = true) (hdis : ∀ i ∈ isR, i ∉ isC) (hK : va_K D vwCl [(cI, .int), (cJ, .long), (cG, .object "WornShapes$Program")] s) (hm : mX7_rule srim ijn a1 a2 = some (r, y_ijn, y_srim)) (hsz : ls.size = nL) (hR : 1 ≤ R.frames ∧ 23 ≤ R.locals ∧ cells ≤ R.cells ∧ slots ≤ R.slots) (hst : (rest.map fun v => v.category).sum ≤ 8) (hd : decode cc pc = .ok (.invokevirtual idx, 3)) (hP : va_P D vwCl ws H) (hD : va_D A ws) (hS : va_S A s.heap H locs) (hA : ∀ q, s.heap.size ≤ q → A q) (kk : ∀ (H : Heap) (locs : List Loc), va_P D vwCl (wr ++ (wdX cJ cG cI oX oXp oXg oG0 oGa0 oG1 oGa1 oG2 oGa2 oQ oQw oI oR oRh oRm oB oBw oS oSs oF oFr oFs oFc oFw xpi gs0 ga0 gs1 ga1 gs2 ga2 qln qwy y_ijn rsz rhi rmi bsz bfi bla bar bwi y_srim sst fw fc fwh fbo fra fst fco fro)) H → va_D A (wr ++ (wdX cJ cG cI oX oXp oXg oG0 oGa0 oG1 oGa1 oG2 oGa2 oQ oQw oI oR oRh oRm oB oBw oS oSs oF oFr oFs oFc oFw xpi gs0 ga0 gs1 ga1 gs2 ga2 qln qwy y_ijn rsz rhi rmi bsz bfi bla bar bwi y_srim sst fw fc fwh fbo fra fst fco fro)) → va_S A s.heap H locs → W p l e R s m args below meth c H locs cells slots Q (F0 m (pc + 3) ls (.int r :: rest))) : W p l e R s m args below meth c H locs cells slots Q (F0 m pc ls (.int a2 :: .int a1 :: .ref oX :: rest)) := by
  have hPc := va_P.subM hP isC hC
  have hDc := hD.sub isC hnC hC
  have hFc := va_free (wc := (wdX cJ cG cI oX oXp oXg oG0 oGa0 oG1 oGa1 oG2 oGa2 oQ oQw oI oR oRh oRm oB oBw oS oSs oF oFr oFs oFc oFw xpi gs0 ga0 gs1 ga1 gs2 ga2 qln qwy ijn rsz rhi rmi bsz bfi bla bar bwi srim sst fw fc fwh fbo fra fst fco fro)) hD hS hA isC hC
  refine va_calli (va_runV (As := [.int a1, .int a2]) (rest := rest) fx (tX7_rule l H.size hm) (cwV 2 fx.2.2.2.2 (tw_V hq qw_413 qw_414 qw_288 qw_415) rfl rfl rfl (by decide +kernel) ⟨hR.1, hR.2.1⟩) ⟨wrP_bl, va_recv hK hPc (ci := 7) (q0 := 0) rfl rfl, wrP_ok hPc hK hDc⟩ rfl rfl hsz rfl (lv_room hst) hd ⟨hR.2.2.1, hR.2.2.2⟩) hS (fun q _ h => hFc q h) hFc (fun r9 u t H1 locs ht hvm hw hB hz1 hk1 hS => ?_)
  obtain ⟨hP1, hK1, hD1⟩ := hB
  rw [ht] at hP1
  rw [hw]
  obtain ⟨hP2, hD2⟩ := va_join (wr := wr) (w1 := (wdX cJ cG cI oX oXp oXg oG0 oGa0 oG1 oGa1 oG2 oGa2 oQ oQw oI oR oRh oRm oB oBw oS oSs oF oFr oFs oFc oFw xpi gs0 ga0 gs1 ga1 gs2 ga2 qln qwy y_ijn rsz rhi rmi bsz bfi bla bar bwi y_srim sst fw fc fwh fbo fra fst fco fro)) hP hD isC isR hC hRr hn hdis hk1 hFc hP1 hD1
  exact kk H1 locs hP2 hD2 hS
-- X7_mix
def mX7_mix (xpi : Nat → Int64) (a1 : Int32) (a2 : Int32) (a3 : Int32) (a4 : Int32) : Option (Int32 × (Nat → Int64)) :=
  (if a1 < 0 then (some ((-2 : Int32), xpi)) else (if a1 ≤ (3 : Int32) then (if (mX7_isPicture a2) = 0 then (some ((-1 : Int32), xpi)) else (if (mX7_isPicture a4) = 0 then (some ((-1 : Int32), xpi)) else (if a1 = (3 : Int32) then gd (ib a2 5) (jb2 (mX7_replace xpi a4 (xpi a2.toNatClampNeg)) (fun (r20 : Int32) (y21 : Nat → Int64) => (some (r20, y21)))) else (if (mX7_isPicture a3) = 0 then (some ((-1 : Int32), xpi)) else gd (ib a2 5) (gd (ib a3 5) (jb2 (mX7_replace xpi a4 (mX7_mixed a1 (xpi a2.toNatClampNeg) (xpi a3.toNatClampNeg))) (fun (r15 : Int32) (y16 : Nat → Int64) => (some (r15, y16))))))))) else (some ((-2 : Int32), xpi))))
theorem dX7_mix_0 : decode cX7_mix 0 = .ok (.iload_n 1, 1) := by decide +kernel
theorem dX7_mix_1 : decode cX7_mix 1 = .ok (.ifCond .lt 8, 3) := by decide +kernel
theorem dX7_mix_4 : decode cX7_mix 4 = .ok (.iload_n 1, 1) := by decide +kernel
theorem dX7_mix_5 : decode cX7_mix 5 = .ok (.iconst 3, 1) := by decide +kernel
theorem dX7_mix_6 : decode cX7_mix 6 = .ok (.if_icmp .le 6, 3) := by decide +kernel
theorem dX7_mix_9 : decode cX7_mix 9 = .ok (.bipush (-2), 2) := by decide +kernel
theorem dX7_mix_11 : decode cX7_mix 11 = .ok (.ireturn, 1) := by decide +kernel
theorem dX7_mix_12 : decode cX7_mix 12 = .ok (.iload_n 2, 1) := by decide +kernel
theorem dX7_mix_13 : decode cX7_mix 13 = .ok (.invokestatic 81, 3) := by decide +kernel
theorem dX7_mix_16 : decode cX7_mix 16 = .ok (.ifCond .eq 11, 3) := by decide +kernel
theorem dX7_mix_19 : decode cX7_mix 19 = .ok (.iload 4, 2) := by decide +kernel
theorem dX7_mix_21 : decode cX7_mix 21 = .ok (.invokestatic 81, 3) := by decide +kernel
theorem dX7_mix_24 : decode cX7_mix 24 = .ok (.ifCond .ne 5, 3) := by decide +kernel
theorem dX7_mix_27 : decode cX7_mix 27 = .ok (.iconst (-1), 1) := by decide +kernel
theorem dX7_mix_28 : decode cX7_mix 28 = .ok (.ireturn, 1) := by decide +kernel
theorem dX7_mix_29 : decode cX7_mix 29 = .ok (.iload_n 1, 1) := by decide +kernel
theorem dX7_mix_30 : decode cX7_mix 30 = .ok (.iconst 3, 1) := by decide +kernel
theorem dX7_mix_31 : decode cX7_mix 31 = .ok (.if_icmp .ne 16, 3) := by decide +kernel
theorem dX7_mix_34 : decode cX7_mix 34 = .ok (.aload_n 0, 1) := by decide +kernel
theorem dX7_mix_35 : decode cX7_mix 35 = .ok (.iload 4, 2) := by decide +kernel
theorem dX7_mix_37 : decode cX7_mix 37 = .ok (.aload_n 0, 1) := by decide +kernel
theorem dX7_mix_38 : decode cX7_mix 38 = .ok (.getfield 18, 3) := by decide +kernel
theorem dX7_mix_41 : decode cX7_mix 41 = .ok (.iload_n 2, 1) := by decide +kernel
theorem dX7_mix_42 : decode cX7_mix 42 = .ok (.laload, 1) := by decide +kernel
theorem dX7_mix_43 : decode cX7_mix 43 = .ok (.invokevirtual 121, 3) := by decide +kernel
theorem dX7_mix_46 : decode cX7_mix 46 = .ok (.ireturn, 1) := by decide +kernel
theorem dX7_mix_47 : decode cX7_mix 47 = .ok (.iload_n 3, 1) := by decide +kernel
theorem dX7_mix_48 : decode cX7_mix 48 = .ok (.invokestatic 81, 3) := by decide +kernel
theorem dX7_mix_51 : decode cX7_mix 51 = .ok (.ifCond .ne 5, 3) := by decide +kernel
theorem dX7_mix_54 : decode cX7_mix 54 = .ok (.iconst (-1), 1) := by decide +kernel
theorem dX7_mix_55 : decode cX7_mix 55 = .ok (.ireturn, 1) := by decide +kernel
theorem dX7_mix_56 : decode cX7_mix 56 = .ok (.aload_n 0, 1) := by decide +kernel
theorem dX7_mix_57 : decode cX7_mix 57 = .ok (.iload 4, 2) := by decide +kernel
theorem dX7_mix_59 : decode cX7_mix 59 = .ok (.iload_n 1, 1) := by decide +kernel
theorem dX7_mix_60 : decode cX7_mix 60 = .ok (.aload_n 0, 1) := by decide +kernel
theorem dX7_mix_61 : decode cX7_mix 61 = .ok (.getfield 18, 3) := by decide +kernel
theorem dX7_mix_64 : decode cX7_mix 64 = .ok (.iload_n 2, 1) := by decide +kernel
theorem dX7_mix_65 : decode cX7_mix 65 = .ok (.laload, 1) := by decide +kernel
theorem dX7_mix_66 : decode cX7_mix 66 = .ok (.aload_n 0, 1) := by decide +kernel
theorem dX7_mix_67 : decode cX7_mix 67 = .ok (.getfield 18, 3) := by decide +kernel
theorem dX7_mix_70 : decode cX7_mix 70 = .ok (.iload_n 3, 1) := by decide +kernel
theorem dX7_mix_71 : decode cX7_mix 71 = .ok (.laload, 1) := by decide +kernel
theorem dX7_mix_72 : decode cX7_mix 72 = .ok (.invokestatic 125, 3) := by decide +kernel
theorem dX7_mix_75 : decode cX7_mix 75 = .ok (.invokevirtual 121, 3) := by decide +kernel
theorem dX7_mix_78 : decode cX7_mix 78 = .ok (.ireturn, 1) := by decide +kernel
set_option maxHeartbeats 4000000 in
set_option maxRecDepth 100000 in
theorem bX7_mix {a1 : Int32} {a2 : Int32} {a3 : Int32} {a4 : Int32} {r : Int32} {y_xpi : (Nat → Int64)} (hx : p.tables.exec = Jvm.exec) (hb : c.code = cX7_mix) (hml : c.maxLocals = 5) (hown : s.vm.findClass RX7 = some m.cls) (hts : ∀ w ∈ tw, w.before args s = true) (hK : va_K D vwCl [(cI, .int), (cJ, .long), (cG, .object "WornShapes$Program")] s) (hA : ∀ q, s.heap.size ≤ q → A q) (hR : 2 ≤ R.frames ∧ 44 ≤ R.locals ∧ cells ≤ R.cells ∧ slots ≤ R.slots) (hm : mX7_mix xpi a1 a2 a3 a4 = some (r, y_xpi)) (ls : Array Slot) (hl : lv_has ls 5 [(0, .ref oX), (1, .int a1), (2, .int a2), (3, .int a3), (4, .int a4)]) (hP : va_P D vwCl (wdX cJ cG cI oX oXp oXg oG0 oGa0 oG1 oGa1 oG2 oGa2 oQ oQw oI oR oRh oRm oB oBw oS oSs oF oFr oFs oFc oFw xpi gs0 ga0 gs1 ga1 gs2 ga2 qln qwy ijn rsz rhi rmi bsz bfi bla bar bwi srim sst fw fc fwh fbo fra fst fco fro) H) (hD : va_D A (wdX cJ cG cI oX oXp oXg oG0 oGa0 oG1 oGa1 oG2 oGa2 oQ oQw oI oR oRh oRm oB oBw oS oSs oF oFr oFs oFc oFw xpi gs0 ga0 gs1 ga1 gs2 ga2 qln qwy ijn rsz rhi rmi bsz bfi bla bar bwi srim sst fw fc fwh fbo fra fst fco fro)) (hS : va_S A s.heap H locs) (K : ∀ (pc : Nat) (ls : Array Slot) (H : Heap) (locs : List Loc), decode cX7_mix pc = .ok (.ireturn, 1) → va_P D vwCl (wdX cJ cG cI oX oXp oXg oG0 oGa0 oG1 oGa1 oG2 oGa2 oQ oQw oI oR oRh oRm oB oBw oS oSs oF oFr oFs oFc oFw y_xpi gs0 ga0 gs1 ga1 gs2 ga2 qln qwy ijn rsz rhi rmi bsz bfi bla bar bwi srim sst fw fc fwh fbo fra fst fco fro) H → va_D A (wdX cJ cG cI oX oXp oXg oG0 oGa0 oG1 oGa1 oG2 oGa2 oQ oQw oI oR oRh oRm oB oBw oS oSs oF oFr oFs oFc oFw y_xpi gs0 ga0 gs1 ga1 gs2 ga2 qln qwy ijn rsz rhi rmi bsz bfi bla bar bwi srim sst fw fc fwh fbo fra fst fco fro) → va_S A s.heap H locs → W p l e R s m args below meth c H locs cells slots Q (F0 m pc ls [.int r])) : W p l e R s m args below meth c H locs cells slots Q (F0 m 0 ls []) := by
  unfold mX7_mix at hm
  refine lv_iload_n hx hb dX7_mix_0 rfl (lv_at hl 1 rfl) ?_
  refine lv_if_lt (tgt := 9) hx hb dX7_mix_1 (by decide) (fun c1 => ?_) (fun c1 => ?_)
  · rw [if_pos c1] at hm
    refine lv_bipush (v := (-2 : Int32)) hx hb dX7_mix_9 (by decide) ?_
    have hm := Option.some.inj hm
    have e9 : r = (-2 : Int32) := (congrArg (fun q => q.1) hm).symm
    rw [e9] at K
    have e9 : y_xpi = xpi := (congrArg (fun q => q.2) hm).symm
    rw [e9] at K
    exact K 11 ls _ _ dX7_mix_11 hP hD hS
  · rw [if_neg c1] at hm
    refine lv_iload_n hx hb dX7_mix_4 rfl (lv_at hl 1 rfl) ?_
    refine lv_iconst (v := (3 : Int32)) hx hb dX7_mix_5 (by decide) ?_
    refine lv_icmp_le (tgt := 12) hx hb dX7_mix_6 (by decide) (fun c2 => ?_) (fun c2 => ?_)
    · rw [if_pos c2] at hm
      refine lv_iload_n hx hb dX7_mix_12 rfl (lv_at hl 2 rfl) ?_
      refine kX7_isPicture ⟨hx, hb, hml, hown, hts⟩ qw_301 hl.1 ⟨Nat.le_trans (by decide) hR.1, Nat.le_trans (by decide) hR.2.1, hR.2.2⟩ (Nat.le_of_ble_eq_true rfl) dX7_mix_13 ?_
      refine lv_if_eq (tgt := 27) hx hb dX7_mix_16 (by decide) (fun c4 => ?_) (fun c4 => ?_)
      · rw [if_pos c4] at hm
        refine lv_iconst (v := (-1 : Int32)) hx hb dX7_mix_27 (by decide) ?_
        have hm := Option.some.inj hm
        have e9 : r = (-1 : Int32) := (congrArg (fun q => q.1) hm).symm
        rw [e9] at K
        have e9 : y_xpi = xpi := (congrArg (fun q => q.2) hm).symm
        rw [e9] at K
        exact K 28 ls _ _ dX7_mix_28 hP hD hS
      · rw [if_neg c4] at hm
        refine lv_iload hx hb dX7_mix_19 (lv_at hl 4 rfl) ?_
        refine kX7_isPicture ⟨hx, hb, hml, hown, hts⟩ qw_301 hl.1 ⟨Nat.le_trans (by decide) hR.1, Nat.le_trans (by decide) hR.2.1, hR.2.2⟩ (Nat.le_of_ble_eq_true rfl) dX7_mix_21 ?_
        refine lv_if_ne (tgt := 29) hx hb dX7_mix_24 (by decide) (fun c6 => ?_) (fun c6 => ?_)
        · rw [if_neg c6] at hm
          refine lv_iload_n hx hb dX7_mix_29 rfl (lv_at hl 1 rfl) ?_
          refine lv_iconst (v := (3 : Int32)) hx hb dX7_mix_30 (by decide) ?_
          refine lv_icmp_ne (tgt := 47) hx hb dX7_mix_31 (by decide) (fun c7 => ?_) (fun c7 => ?_)
          · rw [if_neg c7] at hm
            refine lv_iload_n hx hb dX7_mix_47 rfl (lv_at hl 3 rfl) ?_
            refine kX7_isPicture ⟨hx, hb, hml, hown, hts⟩ qw_301 hl.1 ⟨Nat.le_trans (by decide) hR.1, Nat.le_trans (by decide) hR.2.1, hR.2.2⟩ (Nat.le_of_ble_eq_true rfl) dX7_mix_48 ?_
            refine lv_if_ne (tgt := 56) hx hb dX7_mix_51 (by decide) (fun c9 => ?_) (fun c9 => ?_)
            · rw [if_neg c9] at hm
              refine lv_aload_n hx hb dX7_mix_56 rfl (lv_at hl 0 rfl) ?_
              refine lv_iload hx hb dX7_mix_57 (lv_at hl 4 rfl) ?_
              refine lv_iload_n hx hb dX7_mix_59 rfl (lv_at hl 1 rfl) ?_
              refine lv_aload_n hx hb dX7_mix_60 rfl (lv_at hl 0 rfl) ?_
              refine va_get (D := D) (ci := 7) (v := .ref oXp) (C := RX7) (T := TX7) (N := 8) hx hb hts tnX7 hown hK hP 0 rfl rfl 1 (by decide) (hts _ qw_297) (fun _ h9 => h9) rfl dX7_mix_61 ?_
              refine lv_iload_n hx hb dX7_mix_64 rfl (lv_at hl 2 rfl) ?_
              obtain ⟨g10, hm⟩ := gd_out hm
              refine va_lald hx hb hK hP 1 1 rfl rfl g10 dX7_mix_65 ?_
              refine lv_aload_n hx hb dX7_mix_66 rfl (lv_at hl 0 rfl) ?_
              refine va_get (D := D) (ci := 7) (v := .ref oXp) (C := RX7) (T := TX7) (N := 8) hx hb hts tnX7 hown hK hP 0 rfl rfl 1 (by decide) (hts _ qw_297) (fun _ h9 => h9) rfl dX7_mix_67 ?_
              refine lv_iload_n hx hb dX7_mix_70 rfl (lv_at hl 3 rfl) ?_
              obtain ⟨g11, hm⟩ := gd_out hm
              refine va_lald hx hb hK hP 1 1 rfl rfl g11 dX7_mix_71 ?_
              refine kX7_mixed ⟨hx, hb, hml, hown, hts⟩ qw_416 hl.1 ⟨Nat.le_trans (by decide) hR.1, Nat.le_trans (by decide) hR.2.1, hR.2.2⟩ (Nat.le_of_ble_eq_true rfl) dX7_mix_72 ?_
              obtain ⟨r15, y16, h14, hm⟩ := jb_out2 hm
              refine kX7_replace (ws := (wdX cJ cG cI oX oXp oXg oG0 oGa0 oG1 oGa1 oG2 oGa2 oQ oQw oI oR oRh oRm oB oBw oS oSs oF oFr oFs oFc oFw xpi gs0 ga0 gs1 ga1 gs2 ga2 qln qwy ijn rsz rhi rmi bsz bfi bla bar bwi srim sst fw fc fwh fbo fra fst fco fro)) (wr := []) ⟨hx, hb, hml, hown, hts⟩ qw_417 [0, 1, 2, 3, 4, 5, 6, 7, 8, 9, 10, 11, 12, 13, 14, 15, 16, 17, 18, 19, 20, 21, 22, 23] [] rfl rfl (by decide) (by decide) (by decide) hK h14 hl.1 ⟨Nat.le_trans (by decide) hR.1, Nat.le_trans (by decide) hR.2.1, hR.2.2⟩ (Nat.le_of_ble_eq_true rfl) dX7_mix_75 hP hD hS hA (fun H locs hP hD hS => ?_)
              have hP : va_P D vwCl (wdX cJ cG cI oX oXp oXg oG0 oGa0 oG1 oGa1 oG2 oGa2 oQ oQw oI oR oRh oRm oB oBw oS oSs oF oFr oFs oFc oFw y16 gs0 ga0 gs1 ga1 gs2 ga2 qln qwy ijn rsz rhi rmi bsz bfi bla bar bwi srim sst fw fc fwh fbo fra fst fco fro) H := hP.sub [0, 1, 2, 3, 4, 5, 6, 7, 8, 9, 10, 11, 12, 13, 14, 15, 16, 17, 18, 19, 20, 21, 22, 23] rfl
              have hD : va_D A (wdX cJ cG cI oX oXp oXg oG0 oGa0 oG1 oGa1 oG2 oGa2 oQ oQw oI oR oRh oRm oB oBw oS oSs oF oFr oFs oFc oFw y16 gs0 ga0 gs1 ga1 gs2 ga2 qln qwy ijn rsz rhi rmi bsz bfi bla bar bwi srim sst fw fc fwh fbo fra fst fco fro) := hD.sub [0, 1, 2, 3, 4, 5, 6, 7, 8, 9, 10, 11, 12, 13, 14, 15, 16, 17, 18, 19, 20, 21, 22, 23] (by decide) rfl
              have hm := Option.some.inj hm
              have e9 : r = r15 := (congrArg (fun q => q.1) hm).symm
              rw [e9] at K
              have e9 : y_xpi = y16 := (congrArg (fun q => q.2) hm).symm
              rw [e9] at K
              exact K 78 ls _ _ dX7_mix_78 hP hD hS
            · rw [if_pos c9] at hm
              refine lv_iconst (v := (-1 : Int32)) hx hb dX7_mix_54 (by decide) ?_
              have hm := Option.some.inj hm
              have e9 : r = (-1 : Int32) := (congrArg (fun q => q.1) hm).symm
              rw [e9] at K
              have e9 : y_xpi = xpi := (congrArg (fun q => q.2) hm).symm
              rw [e9] at K
              exact K 55 ls _ _ dX7_mix_55 hP hD hS
          · rw [if_pos c7] at hm
            refine lv_aload_n hx hb dX7_mix_34 rfl (lv_at hl 0 rfl) ?_
            refine lv_iload hx hb dX7_mix_35 (lv_at hl 4 rfl) ?_
            refine lv_aload_n hx hb dX7_mix_37 rfl (lv_at hl 0 rfl) ?_
            refine va_get (D := D) (ci := 7) (v := .ref oXp) (C := RX7) (T := TX7) (N := 8) hx hb hts tnX7 hown hK hP 0 rfl rfl 1 (by decide) (hts _ qw_297) (fun _ h9 => h9) rfl dX7_mix_38 ?_
            refine lv_iload_n hx hb dX7_mix_41 rfl (lv_at hl 2 rfl) ?_
            obtain ⟨g17, hm⟩ := gd_out hm
            refine va_lald hx hb hK hP 1 1 rfl rfl g17 dX7_mix_42 ?_
            obtain ⟨r20, y21, h19, hm⟩ := jb_out2 hm
            refine kX7_replace (ws := (wdX cJ cG cI oX oXp oXg oG0 oGa0 oG1 oGa1 oG2 oGa2 oQ oQw oI oR oRh oRm oB oBw oS oSs oF oFr oFs oFc oFw xpi gs0 ga0 gs1 ga1 gs2 ga2 qln qwy ijn rsz rhi rmi bsz bfi bla bar bwi srim sst fw fc fwh fbo fra fst fco fro)) (wr := []) ⟨hx, hb, hml, hown, hts⟩ qw_417 [0, 1, 2, 3, 4, 5, 6, 7, 8, 9, 10, 11, 12, 13, 14, 15, 16, 17, 18, 19, 20, 21, 22, 23] [] rfl rfl (by decide) (by decide) (by decide) hK h19 hl.1 ⟨Nat.le_trans (by decide) hR.1, Nat.le_trans (by decide) hR.2.1, hR.2.2⟩ (Nat.le_of_ble_eq_true rfl) dX7_mix_43 hP hD hS hA (fun H locs hP hD hS => ?_)
            have hP : va_P D vwCl (wdX cJ cG cI oX oXp oXg oG0 oGa0 oG1 oGa1 oG2 oGa2 oQ oQw oI oR oRh oRm oB oBw oS oSs oF oFr oFs oFc oFw y21 gs0 ga0 gs1 ga1 gs2 ga2 qln qwy ijn rsz rhi rmi bsz bfi bla bar bwi srim sst fw fc fwh fbo fra fst fco fro) H := hP.sub [0, 1, 2, 3, 4, 5, 6, 7, 8, 9, 10, 11, 12, 13, 14, 15, 16, 17, 18, 19, 20, 21, 22, 23] rfl
            have hD : va_D A (wdX cJ cG cI oX oXp oXg oG0 oGa0 oG1 oGa1 oG2 oGa2 oQ oQw oI oR oRh oRm oB oBw oS oSs oF oFr oFs oFc oFw y21 gs0 ga0 gs1 ga1 gs2 ga2 qln qwy ijn rsz rhi rmi bsz bfi bla bar bwi srim sst fw fc fwh fbo fra fst fco fro) := hD.sub [0, 1, 2, 3, 4, 5, 6, 7, 8, 9, 10, 11, 12, 13, 14, 15, 16, 17, 18, 19, 20, 21, 22, 23] (by decide) rfl
            have hm := Option.some.inj hm
            have e9 : r = r20 := (congrArg (fun q => q.1) hm).symm
            rw [e9] at K
            have e9 : y_xpi = y21 := (congrArg (fun q => q.2) hm).symm
            rw [e9] at K
            exact K 46 ls _ _ dX7_mix_46 hP hD hS
        · rw [if_pos c6] at hm
          refine lv_iconst (v := (-1 : Int32)) hx hb dX7_mix_27 (by decide) ?_
          have hm := Option.some.inj hm
          have e9 : r = (-1 : Int32) := (congrArg (fun q => q.1) hm).symm
          rw [e9] at K
          have e9 : y_xpi = xpi := (congrArg (fun q => q.2) hm).symm
          rw [e9] at K
          exact K 28 ls _ _ dX7_mix_28 hP hD hS
    · rw [if_neg c2] at hm
      refine lv_bipush (v := (-2 : Int32)) hx hb dX7_mix_9 (by decide) ?_
      have hm := Option.some.inj hm
      have e9 : r = (-2 : Int32) := (congrArg (fun q => q.1) hm).symm
      rw [e9] at K
      have e9 : y_xpi = xpi := (congrArg (fun q => q.2) hm).symm
      rw [e9] at K
      exact K 11 ls _ _ dX7_mix_11 hP hD hS
set_option maxHeartbeats 4000000 in
set_option maxRecDepth 100000 in
theorem tX7_mix (l : Launch) {D : va_G} (sz : Nat) {a1 : Int32} {a2 : Int32} {a3 : Int32} {a4 : Int32} {r : Int32} {y_xpi : (Nat → Int64)} (hm : mX7_mix xpi a1 a2 a3 a4 = some (r, y_xpi)) : Met l yX7_mix (.code yX7_mix cX7_mix 5 (some .int) :: tw) ({ frames := 2, cells := 0, slots := 0, locals := 44 } : Room) (wrP D [.ref oX, .int a1, .int a2, .int a3, .int a4] (wdX cJ cG cI oX oXp oXg oG0 oGa0 oG1 oGa1 oG2 oGa2 oQ oQw oI oR oRh oRm oB oBw oS oSs oF oFr oFs oFc oFw xpi gs0 ga0 gs1 ga1 gs2 ga2 qln qwy ijn rsz rhi rmi bsz bfi bla bar bwi srim sst fw fc fwh fbo fra fst fco fro) [(cI, .int), (cJ, .long), (cG, .object "WornShapes$Program")] sz) (va_Qi (fun q (_ : Unit) => q = r) (fun (_ : Unit) (t : State) => va_P D vwCl (wdX cJ cG cI oX oXp oXg oG0 oGa0 oG1 oGa1 oG2 oGa2 oQ oQw oI oR oRh oRm oB oBw oS oSs oF oFr oFs oFc oFw y_xpi gs0 ga0 gs1 ga1 gs2 ga2 qln qwy ijn rsz rhi rmi bsz bfi bla bar bwi srim sst fw fc fwh fbo fra fst fco fro) t.heap ∧ va_K D vwCl [(cI, .int), (cJ, .long), (cG, .object "WornShapes$Program")] t ∧ va_D (va_A (wdX cJ cG cI oX oXp oXg oG0 oGa0 oG1 oGa1 oG2 oGa2 oQ oQw oI oR oRh oRm oB oBw oS oSs oF oFr oFs oFc oFw xpi gs0 ga0 gs1 ga1 gs2 ga2 qln qwy ijn rsz rhi rmi bsz bfi bla bar bwi srim sst fw fc fwh fbo fra fst fco fro) sz) (wdX cJ cG cI oX oXp oXg oG0 oGa0 oG1 oGa1 oG2 oGa2 oQ oQw oI oR oRh oRm oB oBw oS oSs oF oFr oFs oFc oFw y_xpi gs0 ga0 gs1 ga1 gs2 ga2 qln qwy ijn rsz rhi rmi bsz bfi bla bar bwi srim sst fw fc fwh fbo fra fst fco fro)) (va_A (wdX cJ cG cI oX oXp oXg oG0 oGa0 oG1 oGa1 oG2 oGa2 oQ oQw oI oR oRh oRm oB oBw oS oSs oF oFr oFs oFc oFw xpi gs0 ga0 gs1 ga1 gs2 ga2 qln qwy ijn rsz rhi rmi bsz bfi bla bar bwi srim sst fw fc fwh fbo fra fst fco fro) sz)) 0 0 (va_A (wdX cJ cG cI oX oXp oXg oG0 oGa0 oG1 oGa1 oG2 oGa2 oQ oQw oI oR oRh oRm oB oBw oS oSs oF oFr oFs oFc oFw xpi gs0 ga0 gs1 ga1 gs2 ga2 qln qwy ijn rsz rhi rmi bsz bfi bla bar bwi srim sst fw fc fwh fbo fra fst fco fro) sz) := by
  refine Met.ofW (cc := cX7_mix) (maxL := 5) (ret := (some .int)) (by decide) rfl ?_
  intro p e s m args below meth c s₁ B hml hv
  obtain ⟨rfl, hsz, hP, hK, hD0⟩ := hv
  have hx := B.exec
  have hb := B.bytes
  have hr := B.returns
  have hts : ∀ w ∈ tw, w.before _ s = true := fun w h => atoms_spec (ws := .code yX7_mix cX7_mix 5 (some .int) :: tw) B.pre w (List.mem_cons_of_mem _ h)
  have hown : s.vm.findClass RX7 = some m.cls := findClass_of_methodNamed B.named
  have hlocks := B.notSynchronized
  subst hsz
  have hD := hD0.self (sz := s.heap.size)
  have hl := lv_entry ([.ref oX, .int a1, .int a2, .int a3, .int a4]) (n := 5) (Nat.le_of_ble_eq_true rfl)
  rw [lg_entry_eq]
  generalize (lg_sl ([.ref oX, .int a1, .int a2, .int a3, .int a4]) ++ List.replicate (5 - (lg_sl ([.ref oX, .int a1, .int a2, .int a3, .int a4])).length) Slot.unset).toArray = ls at hl ⊢
  refine bX7_mix hx hb hml hown hts hK (fun q h => Or.inr h) ⟨Nat.le_of_ble_eq_true rfl, Nat.le_of_ble_eq_true rfl, Nat.zero_le _, Nat.zero_le _⟩ hm ls hl hP hD va_S.rf (fun pc ls H locs hd hP hD hS => ?_)
  exact W.iret hx hb hr (fun t ht hW => ⟨⟨r, (), rfl, rfl, by rw [ht]; exact hP, va_K.moved hW.alike hK, hD⟩, hS.F ht⟩) hS.2.2 hd
set_option maxHeartbeats 4000000 in
set_option maxRecDepth 100000 in
theorem kX7_mix {own : String} {cc : ByteArray} {nL idx pc : Nat} {ls : Array Slot} {rest : List Value} {ws wr : va_W} {a1 : Int32} {a2 : Int32} {a3 : Int32} {a4 : Int32} {r : Int32} {y_xpi : (Nat → Int64)} (fx : CallFix p m c cc nL s args tw own) (hq : Cond.methodLink own idx yX7_mix ∈ tw) (isC isR : List Nat) (hC : isC.map (fun i => ws[i]?) = ((wdX cJ cG cI oX oXp oXg oG0 oGa0 oG1 oGa1 oG2 oGa2 oQ oQw oI oR oRh oRm oB oBw oS oSs oF oFr oFs oFc oFw xpi gs0 ga0 gs1 ga1 gs2 ga2 qln qwy ijn rsz rhi rmi bsz bfi bla bar bwi srim sst fw fc fwh fbo fra fst fco fro) : va_W).map some) (hRr : isR.map (fun i => ws[i]?) = wr.map some) (hnC : va_nd isC = true) (hn : va_nd isR = true) (hdis : ∀ i ∈ isR, i ∉ isC) (hK : va_K D vwCl [(cI, .int), (cJ, .long), (cG, .object "WornShapes$Program")] s) (hm : mX7_mix xpi a1 a2 a3 a4 = some (r, y_xpi)) (hsz : ls.size = nL) (hR : 3 ≤ R.frames ∧ 68 ≤ R.locals ∧ cells ≤ R.cells ∧ slots ≤ R.slots) (hst : (rest.map fun v => v.category).sum ≤ 8) (hd : decode cc pc = .ok (.invokevirtual idx, 3)) (hP : va_P D vwCl ws H) (hD : va_D A ws) (hS : va_S A s.heap H locs) (hA : ∀ q, s.heap.size ≤ q → A q) (kk : ∀ (H : Heap) (locs : List Loc), va_P D vwCl (wr ++ (wdX cJ cG cI oX oXp oXg oG0 oGa0 oG1 oGa1 oG2 oGa2 oQ oQw oI oR oRh oRm oB oBw oS oSs oF oFr oFs oFc oFw y_xpi gs0 ga0 gs1 ga1 gs2 ga2 qln qwy ijn rsz rhi rmi bsz bfi bla bar bwi srim sst fw fc fwh fbo fra fst fco fro)) H → va_D A (wr ++ (wdX cJ cG cI oX oXp oXg oG0 oGa0 oG1 oGa1 oG2 oGa2 oQ oQw oI oR oRh oRm oB oBw oS oSs oF oFr oFs oFc oFw y_xpi gs0 ga0 gs1 ga1 gs2 ga2 qln qwy ijn rsz rhi rmi bsz bfi bla bar bwi srim sst fw fc fwh fbo fra fst fco fro)) → va_S A s.heap H locs → W p l e R s m args below meth c H locs cells slots Q (F0 m (pc + 3) ls (.int r :: rest))) : W p l e R s m args below meth c H locs cells slots Q (F0 m pc ls (.int a4 :: .int a3 :: .int a2 :: .int a1 :: .ref oX :: rest)) := by
  have hPc := va_P.subM hP isC hC
  have hDc := hD.sub isC hnC hC
  have hFc := va_free (wc := (wdX cJ cG cI oX oXp oXg oG0 oGa0 oG1 oGa1 oG2 oGa2 oQ oQw oI oR oRh oRm oB oBw oS oSs oF oFr oFs oFc oFw xpi gs0 ga0 gs1 ga1 gs2 ga2 qln qwy ijn rsz rhi rmi bsz bfi bla bar bwi srim sst fw fc fwh fbo fra fst fco fro)) hD hS hA isC hC
  refine va_calli (va_runV (As := [.int a1, .int a2, .int a3, .int a4]) (rest := rest) fx (tX7_mix l H.size hm) (cwV 4 fx.2.2.2.2 (tw_V hq qw_418 qw_419 qw_288 qw_420) rfl rfl rfl (by decide +kernel) ⟨hR.1, hR.2.1⟩) ⟨wrP_bl, va_recv hK hPc (ci := 7) (q0 := 0) rfl rfl, wrP_ok hPc hK hDc⟩ rfl rfl hsz rfl (lv_room hst) hd ⟨hR.2.2.1, hR.2.2.2⟩) hS (fun q _ h => hFc q h) hFc (fun r9 u t H1 locs ht hvm hw hB hz1 hk1 hS => ?_)
  obtain ⟨hP1, hK1, hD1⟩ := hB
  rw [ht] at hP1
  rw [hw]
  obtain ⟨hP2, hD2⟩ := va_join (wr := wr) (w1 := (wdX cJ cG cI oX oXp oXg oG0 oGa0 oG1 oGa1 oG2 oGa2 oQ oQw oI oR oRh oRm oB oBw oS oSs oF oFr oFs oFc oFw y_xpi gs0 ga0 gs1 ga1 gs2 ga2 qln qwy ijn rsz rhi rmi bsz bfi bla bar bwi srim sst fw fc fwh fbo fra fst fco fro)) hP hD isC isR hC hRr hn hdis hk1 hFc hP1 hD1
  exact kk H1 locs hP2 hD2 hS
-- X7_act
def mX7_act (n : Nat) (xpi : Nat → Int64) (fra : Nat → Int32) (fst : Nat → Int64) (sst : Nat → Int32) (fwh : Int64) (srim : Int32) (a1 : Int32) (a2 : Int32) : Option (Int32 × (Nat → Int64)) :=
  (if (mX7_isPicture a1) = 0 then (some ((-1 : Int32), xpi)) else (if (mX6_isAct a2) = 0 then (some ((-2 : Int32), xpi)) else gd (ib a1 5) (jb (mX6_made n fra fst sst fwh srim (xpi a1.toNatClampNeg) a2) (fun (r6 : Int64) => jb2 (mX7_replace xpi a1 r6) (fun (r10 : Int32) (y11 : Nat → Int64) => (some (r10, y11)))))))
theorem dX7_act_0 : decode cX7_act 0 = .ok (.iload_n 1, 1) := by decide +kernel
theorem dX7_act_1 : decode cX7_act 1 = .ok (.invokestatic 81, 3) := by decide +kernel
theorem dX7_act_4 : decode cX7_act 4 = .ok (.ifCond .ne 5, 3) := by decide +kernel
theorem dX7_act_7 : decode cX7_act 7 = .ok (.iconst (-1), 1) := by decide +kernel
theorem dX7_act_8 : decode cX7_act 8 = .ok (.ireturn, 1) := by decide +kernel
theorem dX7_act_9 : decode cX7_act 9 = .ok (.iload_n 2, 1) := by decide +kernel
theorem dX7_act_10 : decode cX7_act 10 = .ok (.invokestatic 129, 3) := by decide +kernel
theorem dX7_act_13 : decode cX7_act 13 = .ok (.ifCond .ne 6, 3) := by decide +kernel
theorem dX7_act_16 : decode cX7_act 16 = .ok (.bipush (-2), 2) := by decide +kernel
theorem dX7_act_18 : decode cX7_act 18 = .ok (.ireturn, 1) := by decide +kernel
theorem dX7_act_19 : decode cX7_act 19 = .ok (.aload_n 0, 1) := by decide +kernel
theorem dX7_act_20 : decode cX7_act 20 = .ok (.iload_n 1, 1) := by decide +kernel
theorem dX7_act_21 : decode cX7_act 21 = .ok (.aload_n 0, 1) := by decide +kernel
theorem dX7_act_22 : decode cX7_act 22 = .ok (.getfield 27, 3) := by decide +kernel
theorem dX7_act_25 : decode cX7_act 25 = .ok (.aload_n 0, 1) := by decide +kernel
theorem dX7_act_26 : decode cX7_act 26 = .ok (.getfield 18, 3) := by decide +kernel
theorem dX7_act_29 : decode cX7_act 29 = .ok (.iload_n 1, 1) := by decide +kernel
theorem dX7_act_30 : decode cX7_act 30 = .ok (.laload, 1) := by decide +kernel
theorem dX7_act_31 : decode cX7_act 31 = .ok (.iload_n 2, 1) := by decide +kernel
theorem dX7_act_32 : decode cX7_act 32 = .ok (.invokevirtual 132, 3) := by decide +kernel
theorem dX7_act_35 : decode cX7_act 35 = .ok (.invokevirtual 121, 3) := by decide +kernel
theorem dX7_act_38 : decode cX7_act 38 = .ok (.ireturn, 1) := by decide +kernel
set_option maxHeartbeats 4000000 in
set_option maxRecDepth 100000 in
theorem bX7_act {n : Nat} {a1 : Int32} {a2 : Int32} {r : Int32} {y_xpi : (Nat → Int64)} (hx : p.tables.exec = Jvm.exec) (hb : c.code = cX7_act) (hml : c.maxLocals = 3) (hown : s.vm.findClass RX7 = some m.cls) (hts : ∀ w ∈ tw, w.before args s = true) (hK : va_K D vwCl [(cI, .int), (cJ, .long), (cG, .object "WornShapes$Program")] s) (hA : ∀ q, s.heap.size ≤ q → A q) (hR : 4 ≤ R.frames ∧ 99 ≤ R.locals ∧ cells ≤ R.cells ∧ slots ≤ R.slots) (hm : mX7_act n xpi fra fst sst fwh srim a1 a2 = some (r, y_xpi)) (ls : Array Slot) (hl : lv_has ls 3 [(0, .ref oX), (1, .int a1), (2, .int a2)]) (hP : va_P D vwCl (wdX cJ cG cI oX oXp oXg oG0 oGa0 oG1 oGa1 oG2 oGa2 oQ oQw oI oR oRh oRm oB oBw oS oSs oF oFr oFs oFc oFw xpi gs0 ga0 gs1 ga1 gs2 ga2 qln qwy ijn rsz rhi rmi bsz bfi bla bar bwi srim sst fw fc fwh fbo fra fst fco fro) H) (hD : va_D A (wdX cJ cG cI oX oXp oXg oG0 oGa0 oG1 oGa1 oG2 oGa2 oQ oQw oI oR oRh oRm oB oBw oS oSs oF oFr oFs oFc oFw xpi gs0 ga0 gs1 ga1 gs2 ga2 qln qwy ijn rsz rhi rmi bsz bfi bla bar bwi srim sst fw fc fwh fbo fra fst fco fro)) (hS : va_S A s.heap H locs) (K : ∀ (pc : Nat) (ls : Array Slot) (H : Heap) (locs : List Loc), decode cX7_act pc = .ok (.ireturn, 1) → va_P D vwCl (wdX cJ cG cI oX oXp oXg oG0 oGa0 oG1 oGa1 oG2 oGa2 oQ oQw oI oR oRh oRm oB oBw oS oSs oF oFr oFs oFc oFw y_xpi gs0 ga0 gs1 ga1 gs2 ga2 qln qwy ijn rsz rhi rmi bsz bfi bla bar bwi srim sst fw fc fwh fbo fra fst fco fro) H → va_D A (wdX cJ cG cI oX oXp oXg oG0 oGa0 oG1 oGa1 oG2 oGa2 oQ oQw oI oR oRh oRm oB oBw oS oSs oF oFr oFs oFc oFw y_xpi gs0 ga0 gs1 ga1 gs2 ga2 qln qwy ijn rsz rhi rmi bsz bfi bla bar bwi srim sst fw fc fwh fbo fra fst fco fro) → va_S A s.heap H locs → W p l e R s m args below meth c H locs cells slots Q (F0 m pc ls [.int r])) : W p l e R s m args below meth c H locs cells slots Q (F0 m 0 ls []) := by
  unfold mX7_act at hm
  refine lv_iload_n hx hb dX7_act_0 rfl (lv_at hl 1 rfl) ?_
  refine kX7_isPicture ⟨hx, hb, hml, hown, hts⟩ qw_301 hl.1 ⟨Nat.le_trans (by decide) hR.1, Nat.le_trans (by decide) hR.2.1, hR.2.2⟩ (Nat.le_of_ble_eq_true rfl) dX7_act_1 ?_
  refine lv_if_ne (tgt := 9) hx hb dX7_act_4 (by decide) (fun c2 => ?_) (fun c2 => ?_)
  · rw [if_neg c2] at hm
    refine lv_iload_n hx hb dX7_act_9 rfl (lv_at hl 2 rfl) ?_
    refine kX6_isAct ⟨hx, hb, hml, hown, hts⟩ qw_311 hl.1 ⟨Nat.le_trans (by decide) hR.1, Nat.le_trans (by decide) hR.2.1, hR.2.2⟩ (Nat.le_of_ble_eq_true rfl) dX7_act_10 ?_
    refine lv_if_ne (tgt := 19) hx hb dX7_act_13 (by decide) (fun c4 => ?_) (fun c4 => ?_)
    · rw [if_neg c4] at hm
      refine lv_aload_n hx hb dX7_act_19 rfl (lv_at hl 0 rfl) ?_
      refine lv_iload_n hx hb dX7_act_20 rfl (lv_at hl 1 rfl) ?_
      refine lv_aload_n hx hb dX7_act_21 rfl (lv_at hl 0 rfl) ?_
      refine va_get (D := D) (ci := 7) (v := .ref oS) (C := RX7) (T := TX7) (N := 8) hx hb hts tnX7 hown hK hP 0 rfl rfl 2 (by decide) (hts _ qw_312) (fun _ h9 => h9) rfl dX7_act_22 ?_
      refine lv_aload_n hx hb dX7_act_25 rfl (lv_at hl 0 rfl) ?_
      refine va_get (D := D) (ci := 7) (v := .ref oXp) (C := RX7) (T := TX7) (N := 8) hx hb hts tnX7 hown hK hP 0 rfl rfl 1 (by decide) (hts _ qw_297) (fun _ h9 => h9) rfl dX7_act_26 ?_
      refine lv_iload_n hx hb dX7_act_29 rfl (lv_at hl 1 rfl) ?_
      obtain ⟨g5, hm⟩ := gd_out hm
      refine va_lald hx hb hK hP 1 1 rfl rfl g5 dX7_act_30 ?_
      refine lv_iload_n hx hb dX7_act_31 rfl (lv_at hl 2 rfl) ?_
      obtain ⟨r6, h7, hm⟩ := jb_out hm
      refine kX6_made ⟨hx, hb, hml, hown, hts⟩ qw_313 (hP.sub (ws' := (wdS cI cJ oS oSs oF oFr oFs oFc oFw srim sst fw fc fwh fbo fra fst fco fro)) [17, 18, 19, 20, 21, 22, 23] rfl) (hK.sub (tys' := [(cI, .int), (cJ, .long)]) [0, 1] rfl) h7 hl.1 ⟨Nat.le_trans (by decide) hR.1, Nat.le_trans (by decide) hR.2.1, hR.2.2⟩ (Nat.le_of_ble_eq_true rfl) dX7_act_32 ?_
      obtain ⟨r10, y11, h9, hm⟩ := jb_out2 hm
      refine kX7_replace (ws := (wdX cJ cG cI oX oXp oXg oG0 oGa0 oG1 oGa1 oG2 oGa2 oQ oQw oI oR oRh oRm oB oBw oS oSs oF oFr oFs oFc oFw xpi gs0 ga0 gs1 ga1 gs2 ga2 qln qwy ijn rsz rhi rmi bsz bfi bla bar bwi srim sst fw fc fwh fbo fra fst fco fro)) (wr := []) ⟨hx, hb, hml, hown, hts⟩ qw_417 [0, 1, 2, 3, 4, 5, 6, 7, 8, 9, 10, 11, 12, 13, 14, 15, 16, 17, 18, 19, 20, 21, 22, 23] [] rfl rfl (by decide) (by decide) (by decide) hK h9 hl.1 ⟨Nat.le_trans (by decide) hR.1, Nat.le_trans (by decide) hR.2.1, hR.2.2⟩ (Nat.le_of_ble_eq_true rfl) dX7_act_35 hP hD hS hA (fun H locs hP hD hS => ?_)
      have hP : va_P D vwCl (wdX cJ cG cI oX oXp oXg oG0 oGa0 oG1 oGa1 oG2 oGa2 oQ oQw oI oR oRh oRm oB oBw oS oSs oF oFr oFs oFc oFw y11 gs0 ga0 gs1 ga1 gs2 ga2 qln qwy ijn rsz rhi rmi bsz bfi bla bar bwi srim sst fw fc fwh fbo fra fst fco fro) H := hP.sub [0, 1, 2, 3, 4, 5, 6, 7, 8, 9, 10, 11, 12, 13, 14, 15, 16, 17, 18, 19, 20, 21, 22, 23] rfl
      have hD : va_D A (wdX cJ cG cI oX oXp oXg oG0 oGa0 oG1 oGa1 oG2 oGa2 oQ oQw oI oR oRh oRm oB oBw oS oSs oF oFr oFs oFc oFw y11 gs0 ga0 gs1 ga1 gs2 ga2 qln qwy ijn rsz rhi rmi bsz bfi bla bar bwi srim sst fw fc fwh fbo fra fst fco fro) := hD.sub [0, 1, 2, 3, 4, 5, 6, 7, 8, 9, 10, 11, 12, 13, 14, 15, 16, 17, 18, 19, 20, 21, 22, 23] (by decide) rfl
      have hm := Option.some.inj hm
      have e9 : r = r10 := (congrArg (fun q => q.1) hm).symm
      rw [e9] at K
      have e9 : y_xpi = y11 := (congrArg (fun q => q.2) hm).symm
      rw [e9] at K
      exact K 38 ls _ _ dX7_act_38 hP hD hS
    · rw [if_pos c4] at hm
      refine lv_bipush (v := (-2 : Int32)) hx hb dX7_act_16 (by decide) ?_
      have hm := Option.some.inj hm
      have e9 : r = (-2 : Int32) := (congrArg (fun q => q.1) hm).symm
      rw [e9] at K
      have e9 : y_xpi = xpi := (congrArg (fun q => q.2) hm).symm
      rw [e9] at K
      exact K 18 ls _ _ dX7_act_18 hP hD hS
  · rw [if_pos c2] at hm
    refine lv_iconst (v := (-1 : Int32)) hx hb dX7_act_7 (by decide) ?_
    have hm := Option.some.inj hm
    have e9 : r = (-1 : Int32) := (congrArg (fun q => q.1) hm).symm
    rw [e9] at K
    have e9 : y_xpi = xpi := (congrArg (fun q => q.2) hm).symm
    rw [e9] at K
    exact K 8 ls _ _ dX7_act_8 hP hD hS
set_option maxHeartbeats 4000000 in
set_option maxRecDepth 100000 in
theorem tX7_act (l : Launch) {D : va_G} (sz : Nat) {n : Nat} {a1 : Int32} {a2 : Int32} {r : Int32} {y_xpi : (Nat → Int64)} (hm : mX7_act n xpi fra fst sst fwh srim a1 a2 = some (r, y_xpi)) : Met l yX7_act (.code yX7_act cX7_act 3 (some .int) :: tw) ({ frames := 4, cells := 0, slots := 0, locals := 99 } : Room) (wrP D [.ref oX, .int a1, .int a2] (wdX cJ cG cI oX oXp oXg oG0 oGa0 oG1 oGa1 oG2 oGa2 oQ oQw oI oR oRh oRm oB oBw oS oSs oF oFr oFs oFc oFw xpi gs0 ga0 gs1 ga1 gs2 ga2 qln qwy ijn rsz rhi rmi bsz bfi bla bar bwi srim sst fw fc fwh fbo fra fst fco fro) [(cI, .int), (cJ, .long), (cG, .object "WornShapes$Program")] sz) (va_Qi (fun q (_ : Unit) => q = r) (fun (_ : Unit) (t : State) => va_P D vwCl (wdX cJ cG cI oX oXp oXg oG0 oGa0 oG1 oGa1 oG2 oGa2 oQ oQw oI oR oRh oRm oB oBw oS oSs oF oFr oFs oFc oFw y_xpi gs0 ga0 gs1 ga1 gs2 ga2 qln qwy ijn rsz rhi rmi bsz bfi bla bar bwi srim sst fw fc fwh fbo fra fst fco fro) t.heap ∧ va_K D vwCl [(cI, .int), (cJ, .long), (cG, .object "WornShapes$Program")] t ∧ va_D (va_A (wdX cJ cG cI oX oXp oXg oG0 oGa0 oG1 oGa1 oG2 oGa2 oQ oQw oI oR oRh oRm oB oBw oS oSs oF oFr oFs oFc oFw xpi gs0 ga0 gs1 ga1 gs2 ga2 qln qwy ijn rsz rhi rmi bsz bfi bla bar bwi srim sst fw fc fwh fbo fra fst fco fro) sz) (wdX cJ cG cI oX oXp oXg oG0 oGa0 oG1 oGa1 oG2 oGa2 oQ oQw oI oR oRh oRm oB oBw oS oSs oF oFr oFs oFc oFw y_xpi gs0 ga0 gs1 ga1 gs2 ga2 qln qwy ijn rsz rhi rmi bsz bfi bla bar bwi srim sst fw fc fwh fbo fra fst fco fro)) (va_A (wdX cJ cG cI oX oXp oXg oG0 oGa0 oG1 oGa1 oG2 oGa2 oQ oQw oI oR oRh oRm oB oBw oS oSs oF oFr oFs oFc oFw xpi gs0 ga0 gs1 ga1 gs2 ga2 qln qwy ijn rsz rhi rmi bsz bfi bla bar bwi srim sst fw fc fwh fbo fra fst fco fro) sz)) 0 0 (va_A (wdX cJ cG cI oX oXp oXg oG0 oGa0 oG1 oGa1 oG2 oGa2 oQ oQw oI oR oRh oRm oB oBw oS oSs oF oFr oFs oFc oFw xpi gs0 ga0 gs1 ga1 gs2 ga2 qln qwy ijn rsz rhi rmi bsz bfi bla bar bwi srim sst fw fc fwh fbo fra fst fco fro) sz) := by
  refine Met.ofW (cc := cX7_act) (maxL := 3) (ret := (some .int)) (by decide) rfl ?_
  intro p e s m args below meth c s₁ B hml hv
  obtain ⟨rfl, hsz, hP, hK, hD0⟩ := hv
  have hx := B.exec
  have hb := B.bytes
  have hr := B.returns
  have hts : ∀ w ∈ tw, w.before _ s = true := fun w h => atoms_spec (ws := .code yX7_act cX7_act 3 (some .int) :: tw) B.pre w (List.mem_cons_of_mem _ h)
  have hown : s.vm.findClass RX7 = some m.cls := findClass_of_methodNamed B.named
  have hlocks := B.notSynchronized
  subst hsz
  have hD := hD0.self (sz := s.heap.size)
  have hl := lv_entry ([.ref oX, .int a1, .int a2]) (n := 3) (Nat.le_of_ble_eq_true rfl)
  rw [lg_entry_eq]
  generalize (lg_sl ([.ref oX, .int a1, .int a2]) ++ List.replicate (3 - (lg_sl ([.ref oX, .int a1, .int a2])).length) Slot.unset).toArray = ls at hl ⊢
  refine bX7_act hx hb hml hown hts hK (fun q h => Or.inr h) ⟨Nat.le_of_ble_eq_true rfl, Nat.le_of_ble_eq_true rfl, Nat.zero_le _, Nat.zero_le _⟩ hm ls hl hP hD va_S.rf (fun pc ls H locs hd hP hD hS => ?_)
  exact W.iret hx hb hr (fun t ht hW => ⟨⟨r, (), rfl, rfl, by rw [ht]; exact hP, va_K.moved hW.alike hK, hD⟩, hS.F ht⟩) hS.2.2 hd
set_option maxHeartbeats 4000000 in
set_option maxRecDepth 100000 in
theorem kX7_act {own : String} {cc : ByteArray} {nL idx pc : Nat} {ls : Array Slot} {rest : List Value} {ws wr : va_W} {n : Nat} {a1 : Int32} {a2 : Int32} {r : Int32} {y_xpi : (Nat → Int64)} (fx : CallFix p m c cc nL s args tw own) (hq : Cond.methodLink own idx yX7_act ∈ tw) (isC isR : List Nat) (hC : isC.map (fun i => ws[i]?) = ((wdX cJ cG cI oX oXp oXg oG0 oGa0 oG1 oGa1 oG2 oGa2 oQ oQw oI oR oRh oRm oB oBw oS oSs oF oFr oFs oFc oFw xpi gs0 ga0 gs1 ga1 gs2 ga2 qln qwy ijn rsz rhi rmi bsz bfi bla bar bwi srim sst fw fc fwh fbo fra fst fco fro) : va_W).map some) (hRr : isR.map (fun i => ws[i]?) = wr.map some) (hnC : va_nd isC = true) (hn : va_nd isR = true) (hdis : ∀ i ∈ isR, i ∉ isC) (hK : va_K D vwCl [(cI, .int), (cJ, .long), (cG, .object "WornShapes$Program")] s) (hm : mX7_act n xpi fra fst sst fwh srim a1 a2 = some (r, y_xpi)) (hsz : ls.size = nL) (hR : 5 ≤ R.frames ∧ 121 ≤ R.locals ∧ cells ≤ R.cells ∧ slots ≤ R.slots) (hst : (rest.map fun v => v.category).sum ≤ 8) (hd : decode cc pc = .ok (.invokevirtual idx, 3)) (hP : va_P D vwCl ws H) (hD : va_D A ws) (hS : va_S A s.heap H locs) (hA : ∀ q, s.heap.size ≤ q → A q) (kk : ∀ (H : Heap) (locs : List Loc), va_P D vwCl (wr ++ (wdX cJ cG cI oX oXp oXg oG0 oGa0 oG1 oGa1 oG2 oGa2 oQ oQw oI oR oRh oRm oB oBw oS oSs oF oFr oFs oFc oFw y_xpi gs0 ga0 gs1 ga1 gs2 ga2 qln qwy ijn rsz rhi rmi bsz bfi bla bar bwi srim sst fw fc fwh fbo fra fst fco fro)) H → va_D A (wr ++ (wdX cJ cG cI oX oXp oXg oG0 oGa0 oG1 oGa1 oG2 oGa2 oQ oQw oI oR oRh oRm oB oBw oS oSs oF oFr oFs oFc oFw y_xpi gs0 ga0 gs1 ga1 gs2 ga2 qln qwy ijn rsz rhi rmi bsz bfi bla bar bwi srim sst fw fc fwh fbo fra fst fco fro)) → va_S A s.heap H locs → W p l e R s m args below meth c H locs cells slots Q (F0 m (pc + 3) ls (.int r :: rest))) : W p l e R s m args below meth c H locs cells slots Q (F0 m pc ls (.int a2 :: .int a1 :: .ref oX :: rest)) := by
  have hPc := va_P.subM hP isC hC
  have hDc := hD.sub isC hnC hC
  have hFc := va_free (wc := (wdX cJ cG cI oX oXp oXg oG0 oGa0 oG1 oGa1 oG2 oGa2 oQ oQw oI oR oRh oRm oB oBw oS oSs oF oFr oFs oFc oFw xpi gs0 ga0 gs1 ga1 gs2 ga2 qln qwy ijn rsz rhi rmi bsz bfi bla bar bwi srim sst fw fc fwh fbo fra fst fco fro)) hD hS hA isC hC
  refine va_calli (va_runV (As := [.int a1, .int a2]) (rest := rest) fx (tX7_act l H.size hm) (cwV 2 fx.2.2.2.2 (tw_V hq qw_421 qw_422 qw_288 qw_423) rfl rfl rfl (by decide +kernel) ⟨hR.1, hR.2.1⟩) ⟨wrP_bl, va_recv hK hPc (ci := 7) (q0 := 0) rfl rfl, wrP_ok hPc hK hDc⟩ rfl rfl hsz rfl (lv_room hst) hd ⟨hR.2.2.1, hR.2.2.2⟩) hS (fun q _ h => hFc q h) hFc (fun r9 u t H1 locs ht hvm hw hB hz1 hk1 hS => ?_)
  obtain ⟨hP1, hK1, hD1⟩ := hB
  rw [ht] at hP1
  rw [hw]
  obtain ⟨hP2, hD2⟩ := va_join (wr := wr) (w1 := (wdX cJ cG cI oX oXp oXg oG0 oGa0 oG1 oGa1 oG2 oGa2 oQ oQw oI oR oRh oRm oB oBw oS oSs oF oFr oFs oFc oFw y_xpi gs0 ga0 gs1 ga1 gs2 ga2 qln qwy ijn rsz rhi rmi bsz bfi bla bar bwi srim sst fw fc fwh fbo fra fst fco fro)) hP hD isC isR hC hRr hn hdis hk1 hFc hP1 hD1
  exact kk H1 locs hP2 hD2 hS
-- X7_run
def mX7_run (n : Nat) (xpi : Nat → Int64) (gs0 : Int32) (gs1 : Int32) (gs2 : Int32) (fra : Nat → Int32) (fst : Nat → Int64) (sst : Nat → Int32) (fwh : Int64) (srim : Int32) (ga0 : Nat → Int32) (ga1 : Nat → Int32) (ga2 : Nat → Int32) (a1 : Int32) (a2 : Int32) : Option (Int32 × (Nat → Int64)) :=
  (if (mX7_isProgram a1) = 0 then (some ((-1 : Int32), xpi)) else (if (mX7_isPicture a2) = 0 then (some ((-1 : Int32), xpi)) else gd (ib a1 3) (gd (ib a2 5) (jb (mX4_madeOf n (s3 a1 gs0 gs1 gs2) fra fst sst fwh srim (s3 a1 ga0 ga1 ga2) (xpi a2.toNatClampNeg)) (fun (r7 : Int64) => jb2 (mX7_replace xpi a2 r7) (fun (r11 : Int32) (y12 : Nat → Int64) => (some (r11, y12))))))))
theorem dX7_run_0 : decode cX7_run 0 = .ok (.iload_n 1, 1) := by decide +kernel
theorem dX7_run_1 : decode cX7_run 1 = .ok (.invokestatic 136, 3) := by decide +kernel
theorem dX7_run_4 : decode cX7_run 4 = .ok (.ifCond .eq 10, 3) := by decide +kernel
theorem dX7_run_7 : decode cX7_run 7 = .ok (.iload_n 2, 1) := by decide +kernel
theorem dX7_run_8 : decode cX7_run 8 = .ok (.invokestatic 81, 3) := by decide +kernel
theorem dX7_run_11 : decode cX7_run 11 = .ok (.ifCond .ne 5, 3) := by decide +kernel
theorem dX7_run_14 : decode cX7_run 14 = .ok (.iconst (-1), 1) := by decide +kernel
theorem dX7_run_15 : decode cX7_run 15 = .ok (.ireturn, 1) := by decide +kernel
theorem dX7_run_16 : decode cX7_run 16 = .ok (.aload_n 0, 1) := by decide +kernel
theorem dX7_run_17 : decode cX7_run 17 = .ok (.iload_n 2, 1) := by decide +kernel
theorem dX7_run_18 : decode cX7_run 18 = .ok (.aload_n 0, 1) := by decide +kernel
theorem dX7_run_19 : decode cX7_run 19 = .ok (.getfield 33, 3) := by decide +kernel
theorem dX7_run_22 : decode cX7_run 22 = .ok (.iload_n 1, 1) := by decide +kernel
theorem dX7_run_23 : decode cX7_run 23 = .ok (.aaload, 1) := by decide +kernel
theorem dX7_run_24 : decode cX7_run 24 = .ok (.aload_n 0, 1) := by decide +kernel
theorem dX7_run_25 : decode cX7_run 25 = .ok (.getfield 18, 3) := by decide +kernel
theorem dX7_run_28 : decode cX7_run 28 = .ok (.iload_n 2, 1) := by decide +kernel
theorem dX7_run_29 : decode cX7_run 29 = .ok (.laload, 1) := by decide +kernel
theorem dX7_run_30 : decode cX7_run 30 = .ok (.invokevirtual 145, 3) := by decide +kernel
theorem dX7_run_33 : decode cX7_run 33 = .ok (.invokevirtual 121, 3) := by decide +kernel
theorem dX7_run_36 : decode cX7_run 36 = .ok (.ireturn, 1) := by decide +kernel
set_option maxHeartbeats 4000000 in
set_option maxRecDepth 100000 in
theorem bX7_run {n : Nat} {a1 : Int32} {a2 : Int32} {r : Int32} {y_xpi : (Nat → Int64)} (hx : p.tables.exec = Jvm.exec) (hb : c.code = cX7_run) (hml : c.maxLocals = 3) (hown : s.vm.findClass RX7 = some m.cls) (hts : ∀ w ∈ tw, w.before args s = true) (hK : va_K D vwCl [(cI, .int), (cJ, .long), (cG, .object "WornShapes$Program")] s) (hA : ∀ q, s.heap.size ≤ q → A q) (hR : 5 ≤ R.frames ∧ 124 ≤ R.locals ∧ cells ≤ R.cells ∧ slots ≤ R.slots) (hm : mX7_run n xpi gs0 gs1 gs2 fra fst sst fwh srim ga0 ga1 ga2 a1 a2 = some (r, y_xpi)) (ls : Array Slot) (hl : lv_has ls 3 [(0, .ref oX), (1, .int a1), (2, .int a2)]) (hP : va_P D vwCl (wdX cJ cG cI oX oXp oXg oG0 oGa0 oG1 oGa1 oG2 oGa2 oQ oQw oI oR oRh oRm oB oBw oS oSs oF oFr oFs oFc oFw xpi gs0 ga0 gs1 ga1 gs2 ga2 qln qwy ijn rsz rhi rmi bsz bfi bla bar bwi srim sst fw fc fwh fbo fra fst fco fro) H) (hD : va_D A (wdX cJ cG cI oX oXp oXg oG0 oGa0 oG1 oGa1 oG2 oGa2 oQ oQw oI oR oRh oRm oB oBw oS oSs oF oFr oFs oFc oFw xpi gs0 ga0 gs1 ga1 gs2 ga2 qln qwy ijn rsz rhi rmi bsz bfi bla bar bwi srim sst fw fc fwh fbo fra fst fco fro)) (hS : va_S A s.heap H locs) (K : ∀ (pc : Nat) (ls : Array Slot) (H : Heap) (locs : List Loc), decode cX7_run pc = .ok (.ireturn, 1) → va_P D vwCl (wdX cJ cG cI oX oXp oXg oG0 oGa0 oG1 oGa1 oG2 oGa2 oQ oQw oI oR oRh oRm oB oBw oS oSs oF oFr oFs oFc oFw y_xpi gs0 ga0 gs1 ga1 gs2 ga2 qln qwy ijn rsz rhi rmi bsz bfi bla bar bwi srim sst fw fc fwh fbo fra fst fco fro) H → va_D A (wdX cJ cG cI oX oXp oXg oG0 oGa0 oG1 oGa1 oG2 oGa2 oQ oQw oI oR oRh oRm oB oBw oS oSs oF oFr oFs oFc oFw y_xpi gs0 ga0 gs1 ga1 gs2 ga2 qln qwy ijn rsz rhi rmi bsz bfi bla bar bwi srim sst fw fc fwh fbo fra fst fco fro) → va_S A s.heap H locs → W p l e R s m args below meth c H locs cells slots Q (F0 m pc ls [.int r])) : W p l e R s m args below meth c H locs cells slots Q (F0 m 0 ls []) := by
  unfold mX7_run at hm
  refine lv_iload_n hx hb dX7_run_0 rfl (lv_at hl 1 rfl) ?_
  refine kX7_isProgram ⟨hx, hb, hml, hown, hts⟩ qw_318 hl.1 ⟨Nat.le_trans (by decide) hR.1, Nat.le_trans (by decide) hR.2.1, hR.2.2⟩ (Nat.le_of_ble_eq_true rfl) dX7_run_1 ?_
  refine lv_if_eq (tgt := 14) hx hb dX7_run_4 (by decide) (fun c2 => ?_) (fun c2 => ?_)
  · rw [if_pos c2] at hm
    refine lv_iconst (v := (-1 : Int32)) hx hb dX7_run_14 (by decide) ?_
    have hm := Option.some.inj hm
    have e9 : r = (-1 : Int32) := (congrArg (fun q => q.1) hm).symm
    rw [e9] at K
    have e9 : y_xpi = xpi := (congrArg (fun q => q.2) hm).symm
    rw [e9] at K
    exact K 15 ls _ _ dX7_run_15 hP hD hS
  · rw [if_neg c2] at hm
    refine lv_iload_n hx hb dX7_run_7 rfl (lv_at hl 2 rfl) ?_
    refine kX7_isPicture ⟨hx, hb, hml, hown, hts⟩ qw_301 hl.1 ⟨Nat.le_trans (by decide) hR.1, Nat.le_trans (by decide) hR.2.1, hR.2.2⟩ (Nat.le_of_ble_eq_true rfl) dX7_run_8 ?_
    refine lv_if_ne (tgt := 16) hx hb dX7_run_11 (by decide) (fun c4 => ?_) (fun c4 => ?_)
    · rw [if_neg c4] at hm
      refine lv_aload_n hx hb dX7_run_16 rfl (lv_at hl 0 rfl) ?_
      refine lv_iload_n hx hb dX7_run_17 rfl (lv_at hl 2 rfl) ?_
      refine lv_aload_n hx hb dX7_run_18 rfl (lv_at hl 0 rfl) ?_
      refine va_get (D := D) (ci := 7) (v := .ref oXg) (C := RX7) (T := TX7) (N := 8) hx hb hts tnX7 hown hK hP 0 rfl rfl 3 (by decide) (hts _ qw_320) (fun _ h9 => h9) rfl dX7_run_19 ?_
      refine lv_iload_n hx hb dX7_run_22 rfl (lv_at hl 1 rfl) ?_
      obtain ⟨g5, hm⟩ := gd_out hm
      refine va_aldq hx hb hK hP 2 2 rfl rfl g5 dX7_run_23 ?_
      rw [p3_s3 g5]
      refine lv_aload_n hx hb dX7_run_24 rfl (lv_at hl 0 rfl) ?_
      refine va_get (D := D) (ci := 7) (v := .ref oXp) (C := RX7) (T := TX7) (N := 8) hx hb hts tnX7 hown hK hP 0 rfl rfl 1 (by decide) (hts _ qw_297) (fun _ h9 => h9) rfl dX7_run_25 ?_
      refine lv_iload_n hx hb dX7_run_28 rfl (lv_at hl 2 rfl) ?_
      obtain ⟨g6, hm⟩ := gd_out hm
      refine va_lald hx hb hK hP 1 1 rfl rfl g6 dX7_run_29 ?_
      obtain ⟨r7, h8, hm⟩ := jb_out hm
      refine kX4_madeOf ⟨hx, hb, hml, hown, hts⟩ qw_321 (pick3 g5 hP) (hK.sub (tys' := [(cI, .int), (cJ, .long)]) [0, 1] rfl) h8 hl.1 ⟨Nat.le_trans (by decide) hR.1, Nat.le_trans (by decide) hR.2.1, hR.2.2⟩ (Nat.le_of_ble_eq_true rfl) dX7_run_30 ?_
      obtain ⟨r11, y12, h10, hm⟩ := jb_out2 hm
      refine kX7_replace (ws := (wdX cJ cG cI oX oXp oXg oG0 oGa0 oG1 oGa1 oG2 oGa2 oQ oQw oI oR oRh oRm oB oBw oS oSs oF oFr oFs oFc oFw xpi gs0 ga0 gs1 ga1 gs2 ga2 qln qwy ijn rsz rhi rmi bsz bfi bla bar bwi srim sst fw fc fwh fbo fra fst fco fro)) (wr := []) ⟨hx, hb, hml, hown, hts⟩ qw_417 [0, 1, 2, 3, 4, 5, 6, 7, 8, 9, 10, 11, 12, 13, 14, 15, 16, 17, 18, 19, 20, 21, 22, 23] [] rfl rfl (by decide) (by decide) (by decide) hK h10 hl.1 ⟨Nat.le_trans (by decide) hR.1, Nat.le_trans (by decide) hR.2.1, hR.2.2⟩ (Nat.le_of_ble_eq_true rfl) dX7_run_33 hP hD hS hA (fun H locs hP hD hS => ?_)
      have hP : va_P D vwCl (wdX cJ cG cI oX oXp oXg oG0 oGa0 oG1 oGa1 oG2 oGa2 oQ oQw oI oR oRh oRm oB oBw oS oSs oF oFr oFs oFc oFw y12 gs0 ga0 gs1 ga1 gs2 ga2 qln qwy ijn rsz rhi rmi bsz bfi bla bar bwi srim sst fw fc fwh fbo fra fst fco fro) H := hP.sub [0, 1, 2, 3, 4, 5, 6, 7, 8, 9, 10, 11, 12, 13, 14, 15, 16, 17, 18, 19, 20, 21, 22, 23] rfl
      have hD : va_D A (wdX cJ cG cI oX oXp oXg oG0 oGa0 oG1 oGa1 oG2 oGa2 oQ oQw oI oR oRh oRm oB oBw oS oSs oF oFr oFs oFc oFw y12 gs0 ga0 gs1 ga1 gs2 ga2 qln qwy ijn rsz rhi rmi bsz bfi bla bar bwi srim sst fw fc fwh fbo fra fst fco fro) := hD.sub [0, 1, 2, 3, 4, 5, 6, 7, 8, 9, 10, 11, 12, 13, 14, 15, 16, 17, 18, 19, 20, 21, 22, 23] (by decide) rfl
      have hm := Option.some.inj hm
      have e9 : r = r11 := (congrArg (fun q => q.1) hm).symm
      rw [e9] at K
      have e9 : y_xpi = y12 := (congrArg (fun q => q.2) hm).symm
      rw [e9] at K
      exact K 36 ls _ _ dX7_run_36 hP hD hS
    · rw [if_pos c4] at hm
      refine lv_iconst (v := (-1 : Int32)) hx hb dX7_run_14 (by decide) ?_
      have hm := Option.some.inj hm
      have e9 : r = (-1 : Int32) := (congrArg (fun q => q.1) hm).symm
      rw [e9] at K
      have e9 : y_xpi = xpi := (congrArg (fun q => q.2) hm).symm
      rw [e9] at K
      exact K 15 ls _ _ dX7_run_15 hP hD hS
set_option maxHeartbeats 4000000 in
set_option maxRecDepth 100000 in
theorem tX7_run (l : Launch) {D : va_G} (sz : Nat) {n : Nat} {a1 : Int32} {a2 : Int32} {r : Int32} {y_xpi : (Nat → Int64)} (hm : mX7_run n xpi gs0 gs1 gs2 fra fst sst fwh srim ga0 ga1 ga2 a1 a2 = some (r, y_xpi)) : Met l yX7_run (.code yX7_run cX7_run 3 (some .int) :: tw) ({ frames := 5, cells := 0, slots := 0, locals := 124 } : Room) (wrP D [.ref oX, .int a1, .int a2] (wdX cJ cG cI oX oXp oXg oG0 oGa0 oG1 oGa1 oG2 oGa2 oQ oQw oI oR oRh oRm oB oBw oS oSs oF oFr oFs oFc oFw xpi gs0 ga0 gs1 ga1 gs2 ga2 qln qwy ijn rsz rhi rmi bsz bfi bla bar bwi srim sst fw fc fwh fbo fra fst fco fro) [(cI, .int), (cJ, .long), (cG, .object "WornShapes$Program")] sz) (va_Qi (fun q (_ : Unit) => q = r) (fun (_ : Unit) (t : State) => va_P D vwCl (wdX cJ cG cI oX oXp oXg oG0 oGa0 oG1 oGa1 oG2 oGa2 oQ oQw oI oR oRh oRm oB oBw oS oSs oF oFr oFs oFc oFw y_xpi gs0 ga0 gs1 ga1 gs2 ga2 qln qwy ijn rsz rhi rmi bsz bfi bla bar bwi srim sst fw fc fwh fbo fra fst fco fro) t.heap ∧ va_K D vwCl [(cI, .int), (cJ, .long), (cG, .object "WornShapes$Program")] t ∧ va_D (va_A (wdX cJ cG cI oX oXp oXg oG0 oGa0 oG1 oGa1 oG2 oGa2 oQ oQw oI oR oRh oRm oB oBw oS oSs oF oFr oFs oFc oFw xpi gs0 ga0 gs1 ga1 gs2 ga2 qln qwy ijn rsz rhi rmi bsz bfi bla bar bwi srim sst fw fc fwh fbo fra fst fco fro) sz) (wdX cJ cG cI oX oXp oXg oG0 oGa0 oG1 oGa1 oG2 oGa2 oQ oQw oI oR oRh oRm oB oBw oS oSs oF oFr oFs oFc oFw y_xpi gs0 ga0 gs1 ga1 gs2 ga2 qln qwy ijn rsz rhi rmi bsz bfi bla bar bwi srim sst fw fc fwh fbo fra fst fco fro)) (va_A (wdX cJ cG cI oX oXp oXg oG0 oGa0 oG1 oGa1 oG2 oGa2 oQ oQw oI oR oRh oRm oB oBw oS oSs oF oFr oFs oFc oFw xpi gs0 ga0 gs1 ga1 gs2 ga2 qln qwy ijn rsz rhi rmi bsz bfi bla bar bwi srim sst fw fc fwh fbo fra fst fco fro) sz)) 0 0 (va_A (wdX cJ cG cI oX oXp oXg oG0 oGa0 oG1 oGa1 oG2 oGa2 oQ oQw oI oR oRh oRm oB oBw oS oSs oF oFr oFs oFc oFw xpi gs0 ga0 gs1 ga1 gs2 ga2 qln qwy ijn rsz rhi rmi bsz bfi bla bar bwi srim sst fw fc fwh fbo fra fst fco fro) sz) := by
  refine Met.ofW (cc := cX7_run) (maxL := 3) (ret := (some .int)) (by decide) rfl ?_
  intro p e s m args below meth c s₁ B hml hv
  obtain ⟨rfl, hsz, hP, hK, hD0⟩ := hv
  have hx := B.exec
  have hb := B.bytes
  have hr := B.returns
  have hts : ∀ w ∈ tw, w.before _ s = true := fun w h => atoms_spec (ws := .code yX7_run cX7_run 3 (some .int) :: tw) B.pre w (List.mem_cons_of_mem _ h)
  have hown : s.vm.findClass RX7 = some m.cls := findClass_of_methodNamed B.named
  have hlocks := B.notSynchronized
  subst hsz
  have hD := hD0.self (sz := s.heap.size)
  have hl := lv_entry ([.ref oX, .int a1, .int a2]) (n := 3) (Nat.le_of_ble_eq_true rfl)
  rw [lg_entry_eq]
  generalize (lg_sl ([.ref oX, .int a1, .int a2]) ++ List.replicate (3 - (lg_sl ([.ref oX, .int a1, .int a2])).length) Slot.unset).toArray = ls at hl ⊢
  refine bX7_run hx hb hml hown hts hK (fun q h => Or.inr h) ⟨Nat.le_of_ble_eq_true rfl, Nat.le_of_ble_eq_true rfl, Nat.zero_le _, Nat.zero_le _⟩ hm ls hl hP hD va_S.rf (fun pc ls H locs hd hP hD hS => ?_)
  exact W.iret hx hb hr (fun t ht hW => ⟨⟨r, (), rfl, rfl, by rw [ht]; exact hP, va_K.moved hW.alike hK, hD⟩, hS.F ht⟩) hS.2.2 hd
set_option maxHeartbeats 4000000 in
set_option maxRecDepth 100000 in
theorem kX7_run {own : String} {cc : ByteArray} {nL idx pc : Nat} {ls : Array Slot} {rest : List Value} {ws wr : va_W} {n : Nat} {a1 : Int32} {a2 : Int32} {r : Int32} {y_xpi : (Nat → Int64)} (fx : CallFix p m c cc nL s args tw own) (hq : Cond.methodLink own idx yX7_run ∈ tw) (isC isR : List Nat) (hC : isC.map (fun i => ws[i]?) = ((wdX cJ cG cI oX oXp oXg oG0 oGa0 oG1 oGa1 oG2 oGa2 oQ oQw oI oR oRh oRm oB oBw oS oSs oF oFr oFs oFc oFw xpi gs0 ga0 gs1 ga1 gs2 ga2 qln qwy ijn rsz rhi rmi bsz bfi bla bar bwi srim sst fw fc fwh fbo fra fst fco fro) : va_W).map some) (hRr : isR.map (fun i => ws[i]?) = wr.map some) (hnC : va_nd isC = true) (hn : va_nd isR = true) (hdis : ∀ i ∈ isR, i ∉ isC) (hK : va_K D vwCl [(cI, .int), (cJ, .long), (cG, .object "WornShapes$Program")] s) (hm : mX7_run n xpi gs0 gs1 gs2 fra fst sst fwh srim ga0 ga1 ga2 a1 a2 = some (r, y_xpi)) (hsz : ls.size = nL) (hR : 6 ≤ R.frames ∧ 146 ≤ R.locals ∧ cells ≤ R.cells ∧ slots ≤ R.slots) (hst : (rest.map fun v => v.category).sum ≤ 8) (hd : decode cc pc = .ok (.invokevirtual idx, 3)) (hP : va_P D vwCl ws H) (hD : va_D A ws) (hS : va_S A s.heap H locs) (hA : ∀ q, s.heap.size ≤ q → A q) (kk : ∀ (H : Heap) (locs : List Loc), va_P D vwCl (wr ++ (wdX cJ cG cI oX oXp oXg oG0 oGa0 oG1 oGa1 oG2 oGa2 oQ oQw oI oR oRh oRm oB oBw oS oSs oF oFr oFs oFc oFw y_xpi gs0 ga0 gs1 ga1 gs2 ga2 qln qwy ijn rsz rhi rmi bsz bfi bla bar bwi srim sst fw fc fwh fbo fra fst fco fro)) H → va_D A (wr ++ (wdX cJ cG cI oX oXp oXg oG0 oGa0 oG1 oGa1 oG2 oGa2 oQ oQw oI oR oRh oRm oB oBw oS oSs oF oFr oFs oFc oFw y_xpi gs0 ga0 gs1 ga1 gs2 ga2 qln qwy ijn rsz rhi rmi bsz bfi bla bar bwi srim sst fw fc fwh fbo fra fst fco fro)) → va_S A s.heap H locs → W p l e R s m args below meth c H locs cells slots Q (F0 m (pc + 3) ls (.int r :: rest))) : W p l e R s m args below meth c H locs cells slots Q (F0 m pc ls (.int a2 :: .int a1 :: .ref oX :: rest)) := by
  have hPc := va_P.subM hP isC hC
  have hDc := hD.sub isC hnC hC
  have hFc := va_free (wc := (wdX cJ cG cI oX oXp oXg oG0 oGa0 oG1 oGa1 oG2 oGa2 oQ oQw oI oR oRh oRm oB oBw oS oSs oF oFr oFs oFc oFw xpi gs0 ga0 gs1 ga1 gs2 ga2 qln qwy ijn rsz rhi rmi bsz bfi bla bar bwi srim sst fw fc fwh fbo fra fst fco fro)) hD hS hA isC hC
  refine va_calli (va_runV (As := [.int a1, .int a2]) (rest := rest) fx (tX7_run l H.size hm) (cwV 2 fx.2.2.2.2 (tw_V hq qw_424 qw_425 qw_288 qw_426) rfl rfl rfl (by decide +kernel) ⟨hR.1, hR.2.1⟩) ⟨wrP_bl, va_recv hK hPc (ci := 7) (q0 := 0) rfl rfl, wrP_ok hPc hK hDc⟩ rfl rfl hsz rfl (lv_room hst) hd ⟨hR.2.2.1, hR.2.2.2⟩) hS (fun q _ h => hFc q h) hFc (fun r9 u t H1 locs ht hvm hw hB hz1 hk1 hS => ?_)
  obtain ⟨hP1, hK1, hD1⟩ := hB
  rw [ht] at hP1
  rw [hw]
  obtain ⟨hP2, hD2⟩ := va_join (wr := wr) (w1 := (wdX cJ cG cI oX oXp oXg oG0 oGa0 oG1 oGa1 oG2 oGa2 oQ oQw oI oR oRh oRm oB oBw oS oSs oF oFr oFs oFc oFw y_xpi gs0 ga0 gs1 ga1 gs2 ga2 qln qwy ijn rsz rhi rmi bsz bfi bla bar bwi srim sst fw fc fwh fbo fra fst fco fro)) hP hD isC isR hC hRr hn hdis hk1 hFc hP1 hD1
  exact kk H1 locs hP2 hD2 hS
-- X7_keep
def mX7_keep (n : Nat) (xpi : Nat → Int64) (fc : Int32) (fra : Nat → Int32) (fst : Nat → Int64) (ijn : Int32) (a1 : Int32) (a2 : Int32) : Option (Int32 × (Nat → Int64)) :=
  (if (mX7_isPicture a1) = 0 then (some ((-1 : Int32), xpi)) else (if (mX1_isCell fc a2) = 0 then (some ((-1 : Int32), xpi)) else jb (mX7_bitAt xpi a1 a2) (fun (r5 : Int32) => (if r5 = 0 then (some ((-3 : Int32), xpi)) else gd (ib a1 5) (jb (mX3_around n fc fra fst ijn a2 (xpi a1.toNatClampNeg)) (fun (r9 : Int64) => jb2 (mX7_replace xpi a1 r9) (fun (r13 : Int32) (y14 : Nat → Int64) => (some (r13, y14)))))))))
theorem dX7_keep_0 : decode cX7_keep 0 = .ok (.iload_n 1, 1) := by decide +kernel
theorem dX7_keep_1 : decode cX7_keep 1 = .ok (.invokestatic 81, 3) := by decide +kernel
theorem dX7_keep_4 : decode cX7_keep 4 = .ok (.ifCond .eq 14, 3) := by decide +kernel
theorem dX7_keep_7 : decode cX7_keep 7 = .ok (.aload_n 0, 1) := by decide +kernel
theorem dX7_keep_8 : decode cX7_keep 8 = .ok (.getfield 14, 3) := by decide +kernel
theorem dX7_keep_11 : decode cX7_keep 11 = .ok (.iload_n 2, 1) := by decide +kernel
theorem dX7_keep_12 : decode cX7_keep 12 = .ok (.invokevirtual 84, 3) := by decide +kernel
theorem dX7_keep_15 : decode cX7_keep 15 = .ok (.ifCond .ne 5, 3) := by decide +kernel
theorem dX7_keep_18 : decode cX7_keep 18 = .ok (.iconst (-1), 1) := by decide +kernel
theorem dX7_keep_19 : decode cX7_keep 19 = .ok (.ireturn, 1) := by decide +kernel
theorem dX7_keep_20 : decode cX7_keep 20 = .ok (.aload_n 0, 1) := by decide +kernel
theorem dX7_keep_21 : decode cX7_keep 21 = .ok (.iload_n 1, 1) := by decide +kernel
theorem dX7_keep_22 : decode cX7_keep 22 = .ok (.iload_n 2, 1) := by decide +kernel
theorem dX7_keep_23 : decode cX7_keep 23 = .ok (.invokevirtual 87, 3) := by decide +kernel
theorem dX7_keep_26 : decode cX7_keep 26 = .ok (.ifCond .ne 6, 3) := by decide +kernel
theorem dX7_keep_29 : decode cX7_keep 29 = .ok (.bipush (-3), 2) := by decide +kernel
theorem dX7_keep_31 : decode cX7_keep 31 = .ok (.ireturn, 1) := by decide +kernel
theorem dX7_keep_32 : decode cX7_keep 32 = .ok (.aload_n 0, 1) := by decide +kernel
theorem dX7_keep_33 : decode cX7_keep 33 = .ok (.iload_n 1, 1) := by decide +kernel
theorem dX7_keep_34 : decode cX7_keep 34 = .ok (.aload_n 0, 1) := by decide +kernel
theorem dX7_keep_35 : decode cX7_keep 35 = .ok (.getfield 50, 3) := by decide +kernel
theorem dX7_keep_38 : decode cX7_keep 38 = .ok (.iload_n 2, 1) := by decide +kernel
theorem dX7_keep_39 : decode cX7_keep 39 = .ok (.aload_n 0, 1) := by decide +kernel
theorem dX7_keep_40 : decode cX7_keep 40 = .ok (.getfield 18, 3) := by decide +kernel
theorem dX7_keep_43 : decode cX7_keep 43 = .ok (.iload_n 1, 1) := by decide +kernel
theorem dX7_keep_44 : decode cX7_keep 44 = .ok (.laload, 1) := by decide +kernel
theorem dX7_keep_45 : decode cX7_keep 45 = .ok (.invokevirtual 168, 3) := by decide +kernel
theorem dX7_keep_48 : decode cX7_keep 48 = .ok (.invokevirtual 121, 3) := by decide +kernel
theorem dX7_keep_51 : decode cX7_keep 51 = .ok (.ireturn, 1) := by decide +kernel
set_option maxHeartbeats 4000000 in
set_option maxRecDepth 100000 in
theorem bX7_keep {n : Nat} {a1 : Int32} {a2 : Int32} {r : Int32} {y_xpi : (Nat → Int64)} (hx : p.tables.exec = Jvm.exec) (hb : c.code = cX7_keep) (hml : c.maxLocals = 3) (hown : s.vm.findClass RX7 = some m.cls) (hts : ∀ w ∈ tw, w.before args s = true) (hK : va_K D vwCl [(cI, .int), (cJ, .long), (cG, .object "WornShapes$Program")] s) (hA : ∀ q, s.heap.size ≤ q → A q) (hR : 4 ≤ R.frames ∧ 106 ≤ R.locals ∧ cells ≤ R.cells ∧ slots ≤ R.slots) (hm : mX7_keep n xpi fc fra fst ijn a1 a2 = some (r, y_xpi)) (ls : Array Slot) (hl : lv_has ls 3 [(0, .ref oX), (1, .int a1), (2, .int a2)]) (hP : va_P D vwCl (wdX cJ cG cI oX oXp oXg oG0 oGa0 oG1 oGa1 oG2 oGa2 oQ oQw oI oR oRh oRm oB oBw oS oSs oF oFr oFs oFc oFw xpi gs0 ga0 gs1 ga1 gs2 ga2 qln qwy ijn rsz rhi rmi bsz bfi bla bar bwi srim sst fw fc fwh fbo fra fst fco fro) H) (hD : va_D A (wdX cJ cG cI oX oXp oXg oG0 oGa0 oG1 oGa1 oG2 oGa2 oQ oQw oI oR oRh oRm oB oBw oS oSs oF oFr oFs oFc oFw xpi gs0 ga0 gs1 ga1 gs2 ga2 qln qwy ijn rsz rhi rmi bsz bfi bla bar bwi srim sst fw fc fwh fbo fra fst fco fro)) (hS : va_S A s.heap H locs) (K : ∀ (pc : Nat) (ls : Array Slot) (H : Heap) (locs : List Loc), decode cX7_keep pc = .ok (.ireturn, 1) → va_P D vwCl (wdX cJ cG cI oX oXp oXg oG0 oGa0 oG1 oGa1 oG2 oGa2 oQ oQw oI oR oRh oRm oB oBw oS oSs oF oFr oFs oFc oFw y_xpi gs0 ga0 gs1 ga1 gs2 ga2 qln qwy ijn rsz rhi rmi bsz bfi bla bar bwi srim sst fw fc fwh fbo fra fst fco fro) H → va_D A (wdX cJ cG cI oX oXp oXg oG0 oGa0 oG1 oGa1 oG2 oGa2 oQ oQw oI oR oRh oRm oB oBw oS oSs oF oFr oFs oFc oFw y_xpi gs0 ga0 gs1 ga1 gs2 ga2 qln qwy ijn rsz rhi rmi bsz bfi bla bar bwi srim sst fw fc fwh fbo fra fst fco fro) → va_S A s.heap H locs → W p l e R s m args below meth c H locs cells slots Q (F0 m pc ls [.int r])) : W p l e R s m args below meth c H locs cells slots Q (F0 m 0 ls []) := by
  unfold mX7_keep at hm
  refine lv_iload_n hx hb dX7_keep_0 rfl (lv_at hl 1 rfl) ?_
  refine kX7_isPicture ⟨hx, hb, hml, hown, hts⟩ qw_301 hl.1 ⟨Nat.le_trans (by decide) hR.1, Nat.le_trans (by decide) hR.2.1, hR.2.2⟩ (Nat.le_of_ble_eq_true rfl) dX7_keep_1 ?_
  refine lv_if_eq (tgt := 18) hx hb dX7_keep_4 (by decide) (fun c2 => ?_) (fun c2 => ?_)
  · rw [if_pos c2] at hm
    refine lv_iconst (v := (-1 : Int32)) hx hb dX7_keep_18 (by decide) ?_
    have hm := Option.some.inj hm
    have e9 : r = (-1 : Int32) := (congrArg (fun q => q.1) hm).symm
    rw [e9] at K
    have e9 : y_xpi = xpi := (congrArg (fun q => q.2) hm).symm
    rw [e9] at K
    exact K 19 ls _ _ dX7_keep_19 hP hD hS
  · rw [if_neg c2] at hm
    refine lv_aload_n hx hb dX7_keep_7 rfl (lv_at hl 0 rfl) ?_
    refine va_get (D := D) (ci := 7) (v := .ref oF) (C := RX7) (T := TX7) (N := 8) hx hb hts tnX7 hown hK hP 0 rfl rfl 0 (by decide) (hts _ qw_302) (fun _ h9 => h9) rfl dX7_keep_8 ?_
    refine lv_iload_n hx hb dX7_keep_11 rfl (lv_at hl 2 rfl) ?_
    refine kX1_isCell ⟨hx, hb, hml, hown, hts⟩ qw_303 (hP.sub (ws' := (wdF cI cJ oF oFr oFs oFc oFw fw fc fwh fbo fra fst fco fro)) [19, 20, 21, 22, 23] rfl) (hK.sub (tys' := [(cI, .int), (cJ, .long)]) [0, 1] rfl) hl.1 ⟨Nat.le_trans (by decide) hR.1, Nat.le_trans (by decide) hR.2.1, hR.2.2⟩ (Nat.le_of_ble_eq_true rfl) dX7_keep_12 ?_
    refine lv_if_ne (tgt := 20) hx hb dX7_keep_15 (by decide) (fun c4 => ?_) (fun c4 => ?_)
    · rw [if_neg c4] at hm
      refine lv_aload_n hx hb dX7_keep_20 rfl (lv_at hl 0 rfl) ?_
      refine lv_iload_n hx hb dX7_keep_21 rfl (lv_at hl 1 rfl) ?_
      refine lv_iload_n hx hb dX7_keep_22 rfl (lv_at hl 2 rfl) ?_
      obtain ⟨r5, h6, hm⟩ := jb_out hm
      refine kX7_bitAt ⟨hx, hb, hml, hown, hts⟩ qw_304 hP hK h6 hl.1 ⟨Nat.le_trans (by decide) hR.1, Nat.le_trans (by decide) hR.2.1, hR.2.2⟩ (Nat.le_of_ble_eq_true rfl) dX7_keep_23 ?_
      refine lv_if_ne (tgt := 32) hx hb dX7_keep_26 (by decide) (fun c7 => ?_) (fun c7 => ?_)
      · rw [if_neg c7] at hm
        refine lv_aload_n hx hb dX7_keep_32 rfl (lv_at hl 0 rfl) ?_
        refine lv_iload_n hx hb dX7_keep_33 rfl (lv_at hl 1 rfl) ?_
        refine lv_aload_n hx hb dX7_keep_34 rfl (lv_at hl 0 rfl) ?_
        refine va_get (D := D) (ci := 7) (v := .ref oI) (C := RX7) (T := TX7) (N := 8) hx hb hts tnX7 hown hK hP 0 rfl rfl 5 (by decide) (hts _ qw_325) (fun _ h9 => h9) rfl dX7_keep_35 ?_
        refine lv_iload_n hx hb dX7_keep_38 rfl (lv_at hl 2 rfl) ?_
        refine lv_aload_n hx hb dX7_keep_39 rfl (lv_at hl 0 rfl) ?_
        refine va_get (D := D) (ci := 7) (v := .ref oXp) (C := RX7) (T := TX7) (N := 8) hx hb hts tnX7 hown hK hP 0 rfl rfl 1 (by decide) (hts _ qw_297) (fun _ h9 => h9) rfl dX7_keep_40 ?_
        refine lv_iload_n hx hb dX7_keep_43 rfl (lv_at hl 1 rfl) ?_
        obtain ⟨g8, hm⟩ := gd_out hm
        refine va_lald hx hb hK hP 1 1 rfl rfl g8 dX7_keep_44 ?_
        obtain ⟨r9, h10, hm⟩ := jb_out hm
        refine kX3_around ⟨hx, hb, hml, hown, hts⟩ qw_326 (hP.sub (ws' := (wdI cI cJ oI oF oFr oFs oFc oFw ijn fw fc fwh fbo fra fst fco fro)) [11, 19, 20, 21, 22, 23] rfl) (hK.sub (tys' := [(cI, .int), (cJ, .long)]) [0, 1] rfl) h10 hl.1 ⟨Nat.le_trans (by decide) hR.1, Nat.le_trans (by decide) hR.2.1, hR.2.2⟩ (Nat.le_of_ble_eq_true rfl) dX7_keep_45 ?_
        obtain ⟨r13, y14, h12, hm⟩ := jb_out2 hm
        refine kX7_replace (ws := (wdX cJ cG cI oX oXp oXg oG0 oGa0 oG1 oGa1 oG2 oGa2 oQ oQw oI oR oRh oRm oB oBw oS oSs oF oFr oFs oFc oFw xpi gs0 ga0 gs1 ga1 gs2 ga2 qln qwy ijn rsz rhi rmi bsz bfi bla bar bwi srim sst fw fc fwh fbo fra fst fco fro)) (wr := []) ⟨hx, hb, hml, hown, hts⟩ qw_417 [0, 1, 2, 3, 4, 5, 6, 7, 8, 9, 10, 11, 12, 13, 14, 15, 16, 17, 18, 19, 20, 21, 22, 23] [] rfl rfl (by decide) (by decide) (by decide) hK h12 hl.1 ⟨Nat.le_trans (by decide) hR.1, Nat.le_trans (by decide) hR.2.1, hR.2.2⟩ (Nat.le_of_ble_eq_true rfl) dX7_keep_48 hP hD hS hA (fun H locs hP hD hS => ?_)
        have hP : va_P D vwCl (wdX cJ cG cI oX oXp oXg oG0 oGa0 oG1 oGa1 oG2 oGa2 oQ oQw oI oR oRh oRm oB oBw oS oSs oF oFr oFs oFc oFw y14 gs0 ga0 gs1 ga1 gs2 ga2 qln qwy ijn rsz rhi rmi bsz bfi bla bar bwi srim sst fw fc fwh fbo fra fst fco fro) H := hP.sub [0, 1, 2, 3, 4, 5, 6, 7, 8, 9, 10, 11, 12, 13, 14, 15, 16, 17, 18, 19, 20, 21, 22, 23] rfl
        have hD : va_D A (wdX cJ cG cI oX oXp oXg oG0 oGa0 oG1 oGa1 oG2 oGa2 oQ oQw oI oR oRh oRm oB oBw oS oSs oF oFr oFs oFc oFw y14 gs0 ga0 gs1 ga1 gs2 ga2 qln qwy ijn rsz rhi rmi bsz bfi bla bar bwi srim sst fw fc fwh fbo fra fst fco fro) := hD.sub [0, 1, 2, 3, 4, 5, 6, 7, 8, 9, 10, 11, 12, 13, 14, 15, 16, 17, 18, 19, 20, 21, 22, 23] (by decide) rfl
        have hm := Option.some.inj hm
        have e9 : r = r13 := (congrArg (fun q => q.1) hm).symm
        rw [e9] at K
        have e9 : y_xpi = y14 := (congrArg (fun q => q.2) hm).symm
        rw [e9] at K
        exact K 51 ls _ _ dX7_keep_51 hP hD hS
      · rw [if_pos c7] at hm
        refine lv_bipush (v := (-3 : Int32)) hx hb dX7_keep_29 (by decide) ?_
        have hm := Option.some.inj hm
        have e9 : r = (-3 : Int32) := (congrArg (fun q => q.1) hm).symm
        rw [e9] at K
        have e9 : y_xpi = xpi := (congrArg (fun q => q.2) hm).symm
        rw [e9] at K
        exact K 31 ls _ _ dX7_keep_31 hP hD hS
    · rw [if_pos c4] at hm
      refine lv_iconst (v := (-1 : Int32)) hx hb dX7_keep_18 (by decide) ?_
      have hm := Option.some.inj hm
      have e9 : r = (-1 : Int32) := (congrArg (fun q => q.1) hm).symm
      rw [e9] at K
      have e9 : y_xpi = xpi := (congrArg (fun q => q.2) hm).symm
      rw [e9] at K
      exact K 19 ls _ _ dX7_keep_19 hP hD hS
set_option maxHeartbeats 4000000 in
set_option maxRecDepth 100000 in
theorem tX7_keep (l : Launch) {D : va_G} (sz : Nat) {n : Nat} {a1 : Int32} {a2 : Int32} {r : Int32} {y_xpi : (Nat → Int64)} (hm : mX7_keep n xpi fc fra fst ijn a1 a2 = some (r, y_xpi)) : Met l yX7_keep (.code yX7_keep cX7_keep 3 (some .int) :: tw) ({ frames := 4, cells := 0, slots := 0, locals := 106 } : Room) (wrP D [.ref oX, .int a1, .int a2] (wdX cJ cG cI oX oXp oXg oG0 oGa0 oG1 oGa1 oG2 oGa2 oQ oQw oI oR oRh oRm oB oBw oS oSs oF oFr oFs oFc oFw xpi gs0 ga0 gs1 ga1 gs2 ga2 qln qwy ijn rsz rhi rmi bsz bfi bla bar bwi srim sst fw fc fwh fbo fra fst fco fro) [(cI, .int), (cJ, .long), (cG, .object "WornShapes$Program")] sz) (va_Qi (fun q (_ : Unit) => q = r) (fun (_ : Unit) (t : State) => va_P D vwCl (wdX cJ cG cI oX oXp oXg oG0 oGa0 oG1 oGa1 oG2 oGa2 oQ oQw oI oR oRh oRm oB oBw oS oSs oF oFr oFs oFc oFw y_xpi gs0 ga0 gs1 ga1 gs2 ga2 qln qwy ijn rsz rhi rmi bsz bfi bla bar bwi srim sst fw fc fwh fbo fra fst fco fro) t.heap ∧ va_K D vwCl [(cI, .int), (cJ, .long), (cG, .object "WornShapes$Program")] t ∧ va_D (va_A (wdX cJ cG cI oX oXp oXg oG0 oGa0 oG1 oGa1 oG2 oGa2 oQ oQw oI oR oRh oRm oB oBw oS oSs oF oFr oFs oFc oFw xpi gs0 ga0 gs1 ga1 gs2 ga2 qln qwy ijn rsz rhi rmi bsz bfi bla bar bwi srim sst fw fc fwh fbo fra fst fco fro) sz) (wdX cJ cG cI oX oXp oXg oG0 oGa0 oG1 oGa1 oG2 oGa2 oQ oQw oI oR oRh oRm oB oBw oS oSs oF oFr oFs oFc oFw y_xpi gs0 ga0 gs1 ga1 gs2 ga2 qln qwy ijn rsz rhi rmi bsz bfi bla bar bwi srim sst fw fc fwh fbo fra fst fco fro)) (va_A (wdX cJ cG cI oX oXp oXg oG0 oGa0 oG1 oGa1 oG2 oGa2 oQ oQw oI oR oRh oRm oB oBw oS oSs oF oFr oFs oFc oFw xpi gs0 ga0 gs1 ga1 gs2 ga2 qln qwy ijn rsz rhi rmi bsz bfi bla bar bwi srim sst fw fc fwh fbo fra fst fco fro) sz)) 0 0 (va_A (wdX cJ cG cI oX oXp oXg oG0 oGa0 oG1 oGa1 oG2 oGa2 oQ oQw oI oR oRh oRm oB oBw oS oSs oF oFr oFs oFc oFw xpi gs0 ga0 gs1 ga1 gs2 ga2 qln qwy ijn rsz rhi rmi bsz bfi bla bar bwi srim sst fw fc fwh fbo fra fst fco fro) sz) := by
  refine Met.ofW (cc := cX7_keep) (maxL := 3) (ret := (some .int)) (by decide) rfl ?_
  intro p e s m args below meth c s₁ B hml hv
  obtain ⟨rfl, hsz, hP, hK, hD0⟩ := hv
  have hx := B.exec
  have hb := B.bytes
  have hr := B.returns
  have hts : ∀ w ∈ tw, w.before _ s = true := fun w h => atoms_spec (ws := .code yX7_keep cX7_keep 3 (some .int) :: tw) B.pre w (List.mem_cons_of_mem _ h)
  have hown : s.vm.findClass RX7 = some m.cls := findClass_of_methodNamed B.named
  have hlocks := B.notSynchronized
  subst hsz
  have hD := hD0.self (sz := s.heap.size)
  have hl := lv_entry ([.ref oX, .int a1, .int a2]) (n := 3) (Nat.le_of_ble_eq_true rfl)
  rw [lg_entry_eq]
  generalize (lg_sl ([.ref oX, .int a1, .int a2]) ++ List.replicate (3 - (lg_sl ([.ref oX, .int a1, .int a2])).length) Slot.unset).toArray = ls at hl ⊢
  refine bX7_keep hx hb hml hown hts hK (fun q h => Or.inr h) ⟨Nat.le_of_ble_eq_true rfl, Nat.le_of_ble_eq_true rfl, Nat.zero_le _, Nat.zero_le _⟩ hm ls hl hP hD va_S.rf (fun pc ls H locs hd hP hD hS => ?_)
  exact W.iret hx hb hr (fun t ht hW => ⟨⟨r, (), rfl, rfl, by rw [ht]; exact hP, va_K.moved hW.alike hK, hD⟩, hS.F ht⟩) hS.2.2 hd
set_option maxHeartbeats 4000000 in
set_option maxRecDepth 100000 in
theorem kX7_keep {own : String} {cc : ByteArray} {nL idx pc : Nat} {ls : Array Slot} {rest : List Value} {ws wr : va_W} {n : Nat} {a1 : Int32} {a2 : Int32} {r : Int32} {y_xpi : (Nat → Int64)} (fx : CallFix p m c cc nL s args tw own) (hq : Cond.methodLink own idx yX7_keep ∈ tw) (isC isR : List Nat) (hC : isC.map (fun i => ws[i]?) = ((wdX cJ cG cI oX oXp oXg oG0 oGa0 oG1 oGa1 oG2 oGa2 oQ oQw oI oR oRh oRm oB oBw oS oSs oF oFr oFs oFc oFw xpi gs0 ga0 gs1 ga1 gs2 ga2 qln qwy ijn rsz rhi rmi bsz bfi bla bar bwi srim sst fw fc fwh fbo fra fst fco fro) : va_W).map some) (hRr : isR.map (fun i => ws[i]?) = wr.map some) (hnC : va_nd isC = true) (hn : va_nd isR = true) (hdis : ∀ i ∈ isR, i ∉ isC) (hK : va_K D vwCl [(cI, .int), (cJ, .long), (cG, .object "WornShapes$Program")] s) (hm : mX7_keep n xpi fc fra fst ijn a1 a2 = some (r, y_xpi)) (hsz : ls.size = nL) (hR : 5 ≤ R.frames ∧ 128 ≤ R.locals ∧ cells ≤ R.cells ∧ slots ≤ R.slots) (hst : (rest.map fun v => v.category).sum ≤ 8) (hd : decode cc pc = .ok (.invokevirtual idx, 3)) (hP : va_P D vwCl ws H) (hD : va_D A ws) (hS : va_S A s.heap H locs) (hA : ∀ q, s.heap.size ≤ q → A q) (kk : ∀ (H : Heap) (locs : List Loc), va_P D vwCl (wr ++ (wdX cJ cG cI oX oXp oXg oG0 oGa0 oG1 oGa1 oG2 oGa2 oQ oQw oI oR oRh oRm oB oBw oS oSs oF oFr oFs oFc oFw y_xpi gs0 ga0 gs1 ga1 gs2 ga2 qln qwy ijn rsz rhi rmi bsz bfi bla bar bwi srim sst fw fc fwh fbo fra fst fco fro)) H → va_D A (wr ++ (wdX cJ cG cI oX oXp oXg oG0 oGa0 oG1 oGa1 oG2 oGa2 oQ oQw oI oR oRh oRm oB oBw oS oSs oF oFr oFs oFc oFw y_xpi gs0 ga0 gs1 ga1 gs2 ga2 qln qwy ijn rsz rhi rmi bsz bfi bla bar bwi srim sst fw fc fwh fbo fra fst fco fro)) → va_S A s.heap H locs → W p l e R s m args below meth c H locs cells slots Q (F0 m (pc + 3) ls (.int r :: rest))) : W p l e R s m args below meth c H locs cells slots Q (F0 m pc ls (.int a2 :: .int a1 :: .ref oX :: rest)) := by
  have hPc := va_P.subM hP isC hC
  have hDc := hD.sub isC hnC hC
  have hFc := va_free (wc := (wdX cJ cG cI oX oXp oXg oG0 oGa0 oG1 oGa1 oG2 oGa2 oQ oQw oI oR oRh oRm oB oBw oS oSs oF oFr oFs oFc oFw xpi gs0 ga0 gs1 ga1 gs2 ga2 qln qwy ijn rsz rhi rmi bsz bfi bla bar bwi srim sst fw fc fwh fbo fra fst fco fro)) hD hS hA isC hC
  refine va_calli (va_runV (As := [.int a1, .int a2]) (rest := rest) fx (tX7_keep l H.size hm) (cwV 2 fx.2.2.2.2 (tw_V hq qw_427 qw_428 qw_288 qw_429) rfl rfl rfl (by decide +kernel) ⟨hR.1, hR.2.1⟩) ⟨wrP_bl, va_recv hK hPc (ci := 7) (q0 := 0) rfl rfl, wrP_ok hPc hK hDc⟩ rfl rfl hsz rfl (lv_room hst) hd ⟨hR.2.2.1, hR.2.2.2⟩) hS (fun q _ h => hFc q h) hFc (fun r9 u t H1 locs ht hvm hw hB hz1 hk1 hS => ?_)
  obtain ⟨hP1, hK1, hD1⟩ := hB
  rw [ht] at hP1
  rw [hw]
  obtain ⟨hP2, hD2⟩ := va_join (wr := wr) (w1 := (wdX cJ cG cI oX oXp oXg oG0 oGa0 oG1 oGa1 oG2 oGa2 oQ oQw oI oR oRh oRm oB oBw oS oSs oF oFr oFs oFc oFw y_xpi gs0 ga0 gs1 ga1 gs2 ga2 qln qwy ijn rsz rhi rmi bsz bfi bla bar bwi srim sst fw fc fwh fbo fra fst fco fro)) hP hD isC isR hC hRr hn hdis hk1 hFc hP1 hD1
  exact kk H1 locs hP2 hD2 hS
-- X7_fill
def mX7_fill (n : Nat) (xpi : Nat → Int64) (fc : Int32) (fra : Nat → Int32) (fst : Nat → Int64) (fwh : Int64) (fbo : Int64) (ijn : Int32) (a1 : Int32) : Option (Int32 × (Nat → Int64)) :=
  (if (mX7_isPicture a1) = 0 then (some ((-1 : Int32), xpi)) else gd (ib a1 5) (jb (mX3_holesOf n fc fra fst fwh fbo ijn (xpi a1.toNatClampNeg)) (fun (r4 : Int64) => jb (mX7_put xpi a1 r4 (1 : Int32)) (fun (y8 : Nat → Int64) => (some ((mJ13_bitCount_95d88 r4), y8))))))
theorem dX7_fill_0 : decode cX7_fill 0 = .ok (.iload_n 1, 1) := by decide +kernel
theorem dX7_fill_1 : decode cX7_fill 1 = .ok (.invokestatic 81, 3) := by decide +kernel
theorem dX7_fill_4 : decode cX7_fill 4 = .ok (.ifCond .ne 5, 3) := by decide +kernel
theorem dX7_fill_7 : decode cX7_fill 7 = .ok (.iconst (-1), 1) := by decide +kernel
theorem dX7_fill_8 : decode cX7_fill 8 = .ok (.ireturn, 1) := by decide +kernel
theorem dX7_fill_9 : decode cX7_fill 9 = .ok (.aload_n 0, 1) := by decide +kernel
theorem dX7_fill_10 : decode cX7_fill 10 = .ok (.getfield 50, 3) := by decide +kernel
theorem dX7_fill_13 : decode cX7_fill 13 = .ok (.aload_n 0, 1) := by decide +kernel
theorem dX7_fill_14 : decode cX7_fill 14 = .ok (.getfield 18, 3) := by decide +kernel
theorem dX7_fill_17 : decode cX7_fill 17 = .ok (.iload_n 1, 1) := by decide +kernel
theorem dX7_fill_18 : decode cX7_fill 18 = .ok (.laload, 1) := by decide +kernel
theorem dX7_fill_19 : decode cX7_fill 19 = .ok (.invokevirtual 172, 3) := by decide +kernel
theorem dX7_fill_22 : decode cX7_fill 22 = .ok (.lstore_n 2, 1) := by decide +kernel
theorem dX7_fill_23 : decode cX7_fill 23 = .ok (.aload_n 0, 1) := by decide +kernel
theorem dX7_fill_24 : decode cX7_fill 24 = .ok (.iload_n 1, 1) := by decide +kernel
theorem dX7_fill_25 : decode cX7_fill 25 = .ok (.lload_n 2, 1) := by decide +kernel
theorem dX7_fill_26 : decode cX7_fill 26 = .ok (.iconst 1, 1) := by decide +kernel
theorem dX7_fill_27 : decode cX7_fill 27 = .ok (.invokevirtual 91, 3) := by decide +kernel
theorem dX7_fill_30 : decode cX7_fill 30 = .ok (.lload_n 2, 1) := by decide +kernel
theorem dX7_fill_31 : decode cX7_fill 31 = .ok (.invokestatic 99, 3) := by decide +kernel
theorem dX7_fill_34 : decode cX7_fill 34 = .ok (.ireturn, 1) := by decide +kernel
set_option maxHeartbeats 4000000 in
set_option maxRecDepth 100000 in
theorem bX7_fill {n : Nat} {a1 : Int32} {r : Int32} {y_xpi : (Nat → Int64)} (hx : p.tables.exec = Jvm.exec) (hb : c.code = cX7_fill) (hml : c.maxLocals = 4) (hown : s.vm.findClass RX7 = some m.cls) (hts : ∀ w ∈ tw, w.before args s = true) (hK : va_K D vwCl [(cI, .int), (cJ, .long), (cG, .object "WornShapes$Program")] s) (hA : ∀ q, s.heap.size ≤ q → A q) (hR : 4 ≤ R.frames ∧ 107 ≤ R.locals ∧ cells ≤ R.cells ∧ slots ≤ R.slots) (hm : mX7_fill n xpi fc fra fst fwh fbo ijn a1 = some (r, y_xpi)) (ls : Array Slot) (hl : lv_has ls 4 [(0, .ref oX), (1, .int a1)]) (hP : va_P D vwCl (wdX cJ cG cI oX oXp oXg oG0 oGa0 oG1 oGa1 oG2 oGa2 oQ oQw oI oR oRh oRm oB oBw oS oSs oF oFr oFs oFc oFw xpi gs0 ga0 gs1 ga1 gs2 ga2 qln qwy ijn rsz rhi rmi bsz bfi bla bar bwi srim sst fw fc fwh fbo fra fst fco fro) H) (hD : va_D A (wdX cJ cG cI oX oXp oXg oG0 oGa0 oG1 oGa1 oG2 oGa2 oQ oQw oI oR oRh oRm oB oBw oS oSs oF oFr oFs oFc oFw xpi gs0 ga0 gs1 ga1 gs2 ga2 qln qwy ijn rsz rhi rmi bsz bfi bla bar bwi srim sst fw fc fwh fbo fra fst fco fro)) (hS : va_S A s.heap H locs) (K : ∀ (pc : Nat) (ls : Array Slot) (H : Heap) (locs : List Loc), decode cX7_fill pc = .ok (.ireturn, 1) → va_P D vwCl (wdX cJ cG cI oX oXp oXg oG0 oGa0 oG1 oGa1 oG2 oGa2 oQ oQw oI oR oRh oRm oB oBw oS oSs oF oFr oFs oFc oFw y_xpi gs0 ga0 gs1 ga1 gs2 ga2 qln qwy ijn rsz rhi rmi bsz bfi bla bar bwi srim sst fw fc fwh fbo fra fst fco fro) H → va_D A (wdX cJ cG cI oX oXp oXg oG0 oGa0 oG1 oGa1 oG2 oGa2 oQ oQw oI oR oRh oRm oB oBw oS oSs oF oFr oFs oFc oFw y_xpi gs0 ga0 gs1 ga1 gs2 ga2 qln qwy ijn rsz rhi rmi bsz bfi bla bar bwi srim sst fw fc fwh fbo fra fst fco fro) → va_S A s.heap H locs → W p l e R s m args below meth c H locs cells slots Q (F0 m pc ls [.int r])) : W p l e R s m args below meth c H locs cells slots Q (F0 m 0 ls []) := by
  unfold mX7_fill at hm
  refine lv_iload_n hx hb dX7_fill_0 rfl (lv_at hl 1 rfl) ?_
  refine kX7_isPicture ⟨hx, hb, hml, hown, hts⟩ qw_301 hl.1 ⟨Nat.le_trans (by decide) hR.1, Nat.le_trans (by decide) hR.2.1, hR.2.2⟩ (Nat.le_of_ble_eq_true rfl) dX7_fill_1 ?_
  refine lv_if_ne (tgt := 9) hx hb dX7_fill_4 (by decide) (fun c2 => ?_) (fun c2 => ?_)
  · rw [if_neg c2] at hm
    refine lv_aload_n hx hb dX7_fill_9 rfl (lv_at hl 0 rfl) ?_
    refine va_get (D := D) (ci := 7) (v := .ref oI) (C := RX7) (T := TX7) (N := 8) hx hb hts tnX7 hown hK hP 0 rfl rfl 5 (by decide) (hts _ qw_325) (fun _ h9 => h9) rfl dX7_fill_10 ?_
    refine lv_aload_n hx hb dX7_fill_13 rfl (lv_at hl 0 rfl) ?_
    refine va_get (D := D) (ci := 7) (v := .ref oXp) (C := RX7) (T := TX7) (N := 8) hx hb hts tnX7 hown hK hP 0 rfl rfl 1 (by decide) (hts _ qw_297) (fun _ h9 => h9) rfl dX7_fill_14 ?_
    refine lv_iload_n hx hb dX7_fill_17 rfl (lv_at hl 1 rfl) ?_
    obtain ⟨g3, hm⟩ := gd_out hm
    refine va_lald hx hb hK hP 1 1 rfl rfl g3 dX7_fill_18 ?_
    obtain ⟨r4, h5, hm⟩ := jb_out hm
    refine kX3_holesOf ⟨hx, hb, hml, hown, hts⟩ qw_430 (hP.sub (ws' := (wdI cI cJ oI oF oFr oFs oFc oFw ijn fw fc fwh fbo fra fst fco fro)) [11, 19, 20, 21, 22, 23] rfl) (hK.sub (tys' := [(cI, .int), (cJ, .long)]) [0, 1] rfl) h5 hl.1 ⟨Nat.le_trans (by decide) hR.1, Nat.le_trans (by decide) hR.2.1, hR.2.2⟩ (Nat.le_of_ble_eq_true rfl) dX7_fill_19 ?_
    refine lv_lstore_n (lv' := [(2, .long r4), (0, .ref oX), (1, .int a1)]) hx hb dX7_fill_22 rfl hl (by decide) rfl (fun ls hl => ?_)
    refine lv_aload_n hx hb dX7_fill_23 rfl (lv_at hl 1 rfl) ?_
    refine lv_iload_n hx hb dX7_fill_24 rfl (lv_at hl 2 rfl) ?_
    refine lv_lload_n hx hb dX7_fill_25 rfl (lv_at hl 0 rfl) ?_
    refine lv_iconst (v := (1 : Int32)) hx hb dX7_fill_26 (by decide) ?_
    obtain ⟨y8, h7, hm⟩ := jb_out hm
    refine kX7_put (ws := (wdX cJ cG cI oX oXp oXg oG0 oGa0 oG1 oGa1 oG2 oGa2 oQ oQw oI oR oRh oRm oB oBw oS oSs oF oFr oFs oFc oFw xpi gs0 ga0 gs1 ga1 gs2 ga2 qln qwy ijn rsz rhi rmi bsz bfi bla bar bwi srim sst fw fc fwh fbo fra fst fco fro)) (wr := []) ⟨hx, hb, hml, hown, hts⟩ qw_399 [0, 1, 2, 3, 4, 5, 6, 7, 8, 9, 10, 11, 12, 13, 14, 15, 16, 17, 18, 19, 20, 21, 22, 23] [] rfl rfl (by decide) (by decide) (by decide) hK h7 hl.1 ⟨Nat.le_trans (by decide) hR.1, Nat.le_trans (by decide) hR.2.1, hR.2.2⟩ (Nat.le_of_ble_eq_true rfl) dX7_fill_27 hP hD hS hA (fun H locs hP hD hS => ?_)
    have hP : va_P D vwCl (wdX cJ cG cI oX oXp oXg oG0 oGa0 oG1 oGa1 oG2 oGa2 oQ oQw oI oR oRh oRm oB oBw oS oSs oF oFr oFs oFc oFw y8 gs0 ga0 gs1 ga1 gs2 ga2 qln qwy ijn rsz rhi rmi bsz bfi bla bar bwi srim sst fw fc fwh fbo fra fst fco fro) H := hP.sub [0, 1, 2, 3, 4, 5, 6, 7, 8, 9, 10, 11, 12, 13, 14, 15, 16, 17, 18, 19, 20, 21, 22, 23] rfl
    have hD : va_D A (wdX cJ cG cI oX oXp oXg oG0 oGa0 oG1 oGa1 oG2 oGa2 oQ oQw oI oR oRh oRm oB oBw oS oSs oF oFr oFs oFc oFw y8 gs0 ga0 gs1 ga1 gs2 ga2 qln qwy ijn rsz rhi rmi bsz bfi bla bar bwi srim sst fw fc fwh fbo fra fst fco fro) := hD.sub [0, 1, 2, 3, 4, 5, 6, 7, 8, 9, 10, 11, 12, 13, 14, 15, 16, 17, 18, 19, 20, 21, 22, 23] (by decide) rfl
    refine lv_lload_n hx hb dX7_fill_30 rfl (lv_at hl 0 rfl) ?_
    refine kJ13_bitCount_95d88 ⟨hx, hb, hml, hown, hts⟩ qw_314 hl.1 ⟨Nat.le_trans (by decide) hR.1, Nat.le_trans (by decide) hR.2.1, hR.2.2⟩ (Nat.le_of_ble_eq_true rfl) dX7_fill_31 ?_
    have hm := Option.some.inj hm
    have e9 : r = (mJ13_bitCount_95d88 r4) := (congrArg (fun q => q.1) hm).symm
    rw [e9] at K
    have e9 : y_xpi = y8 := (congrArg (fun q => q.2) hm).symm
    rw [e9] at K
    exact K 34 ls _ _ dX7_fill_34 hP hD hS
  · rw [if_pos c2] at hm
    refine lv_iconst (v := (-1 : Int32)) hx hb dX7_fill_7 (by decide) ?_
    have hm := Option.some.inj hm
    have e9 : r = (-1 : Int32) := (congrArg (fun q => q.1) hm).symm
    rw [e9] at K
    have e9 : y_xpi = xpi := (congrArg (fun q => q.2) hm).symm
    rw [e9] at K
    exact K 8 ls _ _ dX7_fill_8 hP hD hS
set_option maxHeartbeats 4000000 in
set_option maxRecDepth 100000 in
theorem tX7_fill (l : Launch) {D : va_G} (sz : Nat) {n : Nat} {a1 : Int32} {r : Int32} {y_xpi : (Nat → Int64)} (hm : mX7_fill n xpi fc fra fst fwh fbo ijn a1 = some (r, y_xpi)) : Met l yX7_fill (.code yX7_fill cX7_fill 4 (some .int) :: tw) ({ frames := 4, cells := 0, slots := 0, locals := 107 } : Room) (wrP D [.ref oX, .int a1] (wdX cJ cG cI oX oXp oXg oG0 oGa0 oG1 oGa1 oG2 oGa2 oQ oQw oI oR oRh oRm oB oBw oS oSs oF oFr oFs oFc oFw xpi gs0 ga0 gs1 ga1 gs2 ga2 qln qwy ijn rsz rhi rmi bsz bfi bla bar bwi srim sst fw fc fwh fbo fra fst fco fro) [(cI, .int), (cJ, .long), (cG, .object "WornShapes$Program")] sz) (va_Qi (fun q (_ : Unit) => q = r) (fun (_ : Unit) (t : State) => va_P D vwCl (wdX cJ cG cI oX oXp oXg oG0 oGa0 oG1 oGa1 oG2 oGa2 oQ oQw oI oR oRh oRm oB oBw oS oSs oF oFr oFs oFc oFw y_xpi gs0 ga0 gs1 ga1 gs2 ga2 qln qwy ijn rsz rhi rmi bsz bfi bla bar bwi srim sst fw fc fwh fbo fra fst fco fro) t.heap ∧ va_K D vwCl [(cI, .int), (cJ, .long), (cG, .object "WornShapes$Program")] t ∧ va_D (va_A (wdX cJ cG cI oX oXp oXg oG0 oGa0 oG1 oGa1 oG2 oGa2 oQ oQw oI oR oRh oRm oB oBw oS oSs oF oFr oFs oFc oFw xpi gs0 ga0 gs1 ga1 gs2 ga2 qln qwy ijn rsz rhi rmi bsz bfi bla bar bwi srim sst fw fc fwh fbo fra fst fco fro) sz) (wdX cJ cG cI oX oXp oXg oG0 oGa0 oG1 oGa1 oG2 oGa2 oQ oQw oI oR oRh oRm oB oBw oS oSs oF oFr oFs oFc oFw y_xpi gs0 ga0 gs1 ga1 gs2 ga2 qln qwy ijn rsz rhi rmi bsz bfi bla bar bwi srim sst fw fc fwh fbo fra fst fco fro)) (va_A (wdX cJ cG cI oX oXp oXg oG0 oGa0 oG1 oGa1 oG2 oGa2 oQ oQw oI oR oRh oRm oB oBw oS oSs oF oFr oFs oFc oFw xpi gs0 ga0 gs1 ga1 gs2 ga2 qln qwy ijn rsz rhi rmi bsz bfi bla bar bwi srim sst fw fc fwh fbo fra fst fco fro) sz)) 0 0 (va_A (wdX cJ cG cI oX oXp oXg oG0 oGa0 oG1 oGa1 oG2 oGa2 oQ oQw oI oR oRh oRm oB oBw oS oSs oF oFr oFs oFc oFw xpi gs0 ga0 gs1 ga1 gs2 ga2 qln qwy ijn rsz rhi rmi bsz bfi bla bar bwi srim sst fw fc fwh fbo fra fst fco fro) sz) := by
  refine Met.ofW (cc := cX7_fill) (maxL := 4) (ret := (some .int)) (by decide) rfl ?_
  intro p e s m args below meth c s₁ B hml hv
  obtain ⟨rfl, hsz, hP, hK, hD0⟩ := hv
  have hx := B.exec
  have hb := B.bytes
  have hr := B.returns
  have hts : ∀ w ∈ tw, w.before _ s = true := fun w h => atoms_spec (ws := .code yX7_fill cX7_fill 4 (some .int) :: tw) B.pre w (List.mem_cons_of_mem _ h)
  have hown : s.vm.findClass RX7 = some m.cls := findClass_of_methodNamed B.named
  have hlocks := B.notSynchronized
  subst hsz
  have hD := hD0.self (sz := s.heap.size)
  have hl := lv_entry ([.ref oX, .int a1]) (n := 4) (Nat.le_of_ble_eq_true rfl)
  rw [lg_entry_eq]
  generalize (lg_sl ([.ref oX, .int a1]) ++ List.replicate (4 - (lg_sl ([.ref oX, .int a1])).length) Slot.unset).toArray = ls at hl ⊢
  refine bX7_fill hx hb hml hown hts hK (fun q h => Or.inr h) ⟨Nat.le_of_ble_eq_true rfl, Nat.le_of_ble_eq_true rfl, Nat.zero_le _, Nat.zero_le _⟩ hm ls hl hP hD va_S.rf (fun pc ls H locs hd hP hD hS => ?_)
  exact W.iret hx hb hr (fun t ht hW => ⟨⟨r, (), rfl, rfl, by rw [ht]; exact hP, va_K.moved hW.alike hK, hD⟩, hS.F ht⟩) hS.2.2 hd
set_option maxHeartbeats 4000000 in
set_option maxRecDepth 100000 in
theorem kX7_fill {own : String} {cc : ByteArray} {nL idx pc : Nat} {ls : Array Slot} {rest : List Value} {ws wr : va_W} {n : Nat} {a1 : Int32} {r : Int32} {y_xpi : (Nat → Int64)} (fx : CallFix p m c cc nL s args tw own) (hq : Cond.methodLink own idx yX7_fill ∈ tw) (isC isR : List Nat) (hC : isC.map (fun i => ws[i]?) = ((wdX cJ cG cI oX oXp oXg oG0 oGa0 oG1 oGa1 oG2 oGa2 oQ oQw oI oR oRh oRm oB oBw oS oSs oF oFr oFs oFc oFw xpi gs0 ga0 gs1 ga1 gs2 ga2 qln qwy ijn rsz rhi rmi bsz bfi bla bar bwi srim sst fw fc fwh fbo fra fst fco fro) : va_W).map some) (hRr : isR.map (fun i => ws[i]?) = wr.map some) (hnC : va_nd isC = true) (hn : va_nd isR = true) (hdis : ∀ i ∈ isR, i ∉ isC) (hK : va_K D vwCl [(cI, .int), (cJ, .long), (cG, .object "WornShapes$Program")] s) (hm : mX7_fill n xpi fc fra fst fwh fbo ijn a1 = some (r, y_xpi)) (hsz : ls.size = nL) (hR : 5 ≤ R.frames ∧ 130 ≤ R.locals ∧ cells ≤ R.cells ∧ slots ≤ R.slots) (hst : (rest.map fun v => v.category).sum ≤ 8) (hd : decode cc pc = .ok (.invokevirtual idx, 3)) (hP : va_P D vwCl ws H) (hD : va_D A ws) (hS : va_S A s.heap H locs) (hA : ∀ q, s.heap.size ≤ q → A q) (kk : ∀ (H : Heap) (locs : List Loc), va_P D vwCl (wr ++ (wdX cJ cG cI oX oXp oXg oG0 oGa0 oG1 oGa1 oG2 oGa2 oQ oQw oI oR oRh oRm oB oBw oS oSs oF oFr oFs oFc oFw y_xpi gs0 ga0 gs1 ga1 gs2 ga2 qln qwy ijn rsz rhi rmi bsz bfi bla bar bwi srim sst fw fc fwh fbo fra fst fco fro)) H → va_D A (wr ++ (wdX cJ cG cI oX oXp oXg oG0 oGa0 oG1 oGa1 oG2 oGa2 oQ oQw oI oR oRh oRm oB oBw oS oSs oF oFr oFs oFc oFw y_xpi gs0 ga0 gs1 ga1 gs2 ga2 qln qwy ijn rsz rhi rmi bsz bfi bla bar bwi srim sst fw fc fwh fbo fra fst fco fro)) → va_S A s.heap H locs → W p l e R s m args below meth c H locs cells slots Q (F0 m (pc + 3) ls (.int r :: rest))) : W p l e R s m args below meth c H locs cells slots Q (F0 m pc ls (.int a1 :: .ref oX :: rest)) := by
  have hPc := va_P.subM hP isC hC
  have hDc := hD.sub isC hnC hC
  have hFc := va_free (wc := (wdX cJ cG cI oX oXp oXg oG0 oGa0 oG1 oGa1 oG2 oGa2 oQ oQw oI oR oRh oRm oB oBw oS oSs oF oFr oFs oFc oFw xpi gs0 ga0 gs1 ga1 gs2 ga2 qln qwy ijn rsz rhi rmi bsz bfi bla bar bwi srim sst fw fc fwh fbo fra fst fco fro)) hD hS hA isC hC
  refine va_calli (va_runV (As := [.int a1]) (rest := rest) fx (tX7_fill l H.size hm) (cwV 1 fx.2.2.2.2 (tw_V hq qw_431 qw_432 qw_288 qw_433) rfl rfl rfl (by decide +kernel) ⟨hR.1, hR.2.1⟩) ⟨wrP_bl, va_recv hK hPc (ci := 7) (q0 := 0) rfl rfl, wrP_ok hPc hK hDc⟩ rfl rfl hsz rfl (lv_room hst) hd ⟨hR.2.2.1, hR.2.2.2⟩) hS (fun q _ h => hFc q h) hFc (fun r9 u t H1 locs ht hvm hw hB hz1 hk1 hS => ?_)
  obtain ⟨hP1, hK1, hD1⟩ := hB
  rw [ht] at hP1
  rw [hw]
  obtain ⟨hP2, hD2⟩ := va_join (wr := wr) (w1 := (wdX cJ cG cI oX oXp oXg oG0 oGa0 oG1 oGa1 oG2 oGa2 oQ oQw oI oR oRh oRm oB oBw oS oSs oF oFr oFs oFc oFw y_xpi gs0 ga0 gs1 ga1 gs2 ga2 qln qwy ijn rsz rhi rmi bsz bfi bla bar bwi srim sst fw fc fwh fbo fra fst fco fro)) hP hD isC isR hC hRr hn hdis hk1 hFc hP1 hD1
  exact kk H1 locs hP2 hD2 hS
-- X7_pair
def mX7_pair (rsz : Int32) (rhi : Nat → Int32) (rmi : Nat → Int32) (a1 : Int32) (a2 : Int32) : Option (Int32 × (Int32) × (Nat → Int32) × (Nat → Int32)) :=
  (if (mX6_isStamp a1) = 0 then (some ((-1 : Int32), rsz, rhi, rmi)) else (if (mX6_isStamp a2) = 0 then (some ((-1 : Int32), rsz, rhi, rmi)) else jb4 (mX2_append rsz rhi rmi a1 a2) (fun (r7 : Int32) (y8 : Int32) (y9 : Nat → Int32) (y10 : Nat → Int32) => (if r7 = 0 then (some ((-4 : Int32), y8, y9, y10)) else (some ((y8 - (1 : Int32)), y8, y9, y10))))))
theorem dX7_pair_0 : decode cX7_pair 0 = .ok (.iload_n 1, 1) := by decide +kernel
theorem dX7_pair_1 : decode cX7_pair 1 = .ok (.invokestatic 107, 3) := by decide +kernel
theorem dX7_pair_4 : decode cX7_pair 4 = .ok (.ifCond .eq 10, 3) := by decide +kernel
theorem dX7_pair_7 : decode cX7_pair 7 = .ok (.iload_n 2, 1) := by decide +kernel
theorem dX7_pair_8 : decode cX7_pair 8 = .ok (.invokestatic 107, 3) := by decide +kernel
theorem dX7_pair_11 : decode cX7_pair 11 = .ok (.ifCond .ne 5, 3) := by decide +kernel
theorem dX7_pair_14 : decode cX7_pair 14 = .ok (.iconst (-1), 1) := by decide +kernel
theorem dX7_pair_15 : decode cX7_pair 15 = .ok (.ireturn, 1) := by decide +kernel
theorem dX7_pair_16 : decode cX7_pair 16 = .ok (.aload_n 0, 1) := by decide +kernel
theorem dX7_pair_17 : decode cX7_pair 17 = .ok (.getfield 59, 3) := by decide +kernel
theorem dX7_pair_20 : decode cX7_pair 20 = .ok (.iload_n 1, 1) := by decide +kernel
theorem dX7_pair_21 : decode cX7_pair 21 = .ok (.iload_n 2, 1) := by decide +kernel
theorem dX7_pair_22 : decode cX7_pair 22 = .ok (.invokevirtual 175, 3) := by decide +kernel
theorem dX7_pair_25 : decode cX7_pair 25 = .ok (.ifCond .eq 15, 3) := by decide +kernel
theorem dX7_pair_28 : decode cX7_pair 28 = .ok (.aload_n 0, 1) := by decide +kernel
theorem dX7_pair_29 : decode cX7_pair 29 = .ok (.getfield 59, 3) := by decide +kernel
theorem dX7_pair_32 : decode cX7_pair 32 = .ok (.getfield 178, 3) := by decide +kernel
theorem dX7_pair_35 : decode cX7_pair 35 = .ok (.iconst 1, 1) := by decide +kernel
theorem dX7_pair_36 : decode cX7_pair 36 = .ok (.isub, 1) := by decide +kernel
theorem dX7_pair_37 : decode cX7_pair 37 = .ok (.goto 5, 3) := by decide +kernel
theorem dX7_pair_40 : decode cX7_pair 40 = .ok (.bipush (-4), 2) := by decide +kernel
theorem dX7_pair_42 : decode cX7_pair 42 = .ok (.ireturn, 1) := by decide +kernel
set_option maxHeartbeats 4000000 in
set_option maxRecDepth 100000 in
theorem bX7_pair {a1 : Int32} {a2 : Int32} {r : Int32} {y_rsz : (Int32)} {y_rhi : (Nat → Int32)} {y_rmi : (Nat → Int32)} (hx : p.tables.exec = Jvm.exec) (hb : c.code = cX7_pair) (hml : c.maxLocals = 3) (hown : s.vm.findClass RX7 = some m.cls) (hts : ∀ w ∈ tw, w.before args s = true) (hK : va_K D vwCl [(cI, .int), (cJ, .long), (cG, .object "WornShapes$Program")] s) (hA : ∀ q, s.heap.size ≤ q → A q) (hR : 1 ≤ R.frames ∧ 22 ≤ R.locals ∧ cells ≤ R.cells ∧ slots ≤ R.slots) (hm : mX7_pair rsz rhi rmi a1 a2 = some (r, y_rsz, y_rhi, y_rmi)) (ls : Array Slot) (hl : lv_has ls 3 [(0, .ref oX), (1, .int a1), (2, .int a2)]) (hP : va_P D vwCl (wdX cJ cG cI oX oXp oXg oG0 oGa0 oG1 oGa1 oG2 oGa2 oQ oQw oI oR oRh oRm oB oBw oS oSs oF oFr oFs oFc oFw xpi gs0 ga0 gs1 ga1 gs2 ga2 qln qwy ijn rsz rhi rmi bsz bfi bla bar bwi srim sst fw fc fwh fbo fra fst fco fro) H) (hD : va_D A (wdX cJ cG cI oX oXp oXg oG0 oGa0 oG1 oGa1 oG2 oGa2 oQ oQw oI oR oRh oRm oB oBw oS oSs oF oFr oFs oFc oFw xpi gs0 ga0 gs1 ga1 gs2 ga2 qln qwy ijn rsz rhi rmi bsz bfi bla bar bwi srim sst fw fc fwh fbo fra fst fco fro)) (hS : va_S A s.heap H locs) (K : ∀ (pc : Nat) (ls : Array Slot) (H : Heap) (locs : List Loc), decode cX7_pair pc = .ok (.ireturn, 1) → va_P D vwCl (wdX cJ cG cI oX oXp oXg oG0 oGa0 oG1 oGa1 oG2 oGa2 oQ oQw oI oR oRh oRm oB oBw oS oSs oF oFr oFs oFc oFw xpi gs0 ga0 gs1 ga1 gs2 ga2 qln qwy ijn y_rsz y_rhi y_rmi bsz bfi bla bar bwi srim sst fw fc fwh fbo fra fst fco fro) H → va_D A (wdX cJ cG cI oX oXp oXg oG0 oGa0 oG1 oGa1 oG2 oGa2 oQ oQw oI oR oRh oRm oB oBw oS oSs oF oFr oFs oFc oFw xpi gs0 ga0 gs1 ga1 gs2 ga2 qln qwy ijn y_rsz y_rhi y_rmi bsz bfi bla bar bwi srim sst fw fc fwh fbo fra fst fco fro) → va_S A s.heap H locs → W p l e R s m args below meth c H locs cells slots Q (F0 m pc ls [.int r])) : W p l e R s m args below meth c H locs cells slots Q (F0 m 0 ls []) := by
  unfold mX7_pair at hm
  refine lv_iload_n hx hb dX7_pair_0 rfl (lv_at hl 1 rfl) ?_
  refine kX6_isStamp ⟨hx, hb, hml, hown, hts⟩ qw_336 hl.1 ⟨Nat.le_trans (by decide) hR.1, Nat.le_trans (by decide) hR.2.1, hR.2.2⟩ (Nat.le_of_ble_eq_true rfl) dX7_pair_1 ?_
  refine lv_if_eq (tgt := 14) hx hb dX7_pair_4 (by decide) (fun c2 => ?_) (fun c2 => ?_)
  · rw [if_pos c2] at hm
    refine lv_iconst (v := (-1 : Int32)) hx hb dX7_pair_14 (by decide) ?_
    have hm := Option.some.inj hm
    have e9 : r = (-1 : Int32) := (congrArg (fun q => q.1) hm).symm
    rw [e9] at K
    have e9 : y_rsz = rsz := (congrArg (fun q => q.2.1) hm).symm
    rw [e9] at K
    have e9 : y_rhi = rhi := (congrArg (fun q => q.2.2.1) hm).symm
    rw [e9] at K
    have e9 : y_rmi = rmi := (congrArg (fun q => q.2.2.2) hm).symm
    rw [e9] at K
    exact K 15 ls _ _ dX7_pair_15 hP hD hS
  · rw [if_neg c2] at hm
    refine lv_iload_n hx hb dX7_pair_7 rfl (lv_at hl 2 rfl) ?_
    refine kX6_isStamp ⟨hx, hb, hml, hown, hts⟩ qw_336 hl.1 ⟨Nat.le_trans (by decide) hR.1, Nat.le_trans (by decide) hR.2.1, hR.2.2⟩ (Nat.le_of_ble_eq_true rfl) dX7_pair_8 ?_
    refine lv_if_ne (tgt := 16) hx hb dX7_pair_11 (by decide) (fun c4 => ?_) (fun c4 => ?_)
    · rw [if_neg c4] at hm
      refine lv_aload_n hx hb dX7_pair_16 rfl (lv_at hl 0 rfl) ?_
      refine va_get (D := D) (ci := 7) (v := .ref oR) (C := RX7) (T := TX7) (N := 8) hx hb hts tnX7 hown hK hP 0 rfl rfl 6 (by decide) (hts _ qw_330) (fun _ h9 => h9) rfl dX7_pair_17 ?_
      refine lv_iload_n hx hb dX7_pair_20 rfl (lv_at hl 1 rfl) ?_
      refine lv_iload_n hx hb dX7_pair_21 rfl (lv_at hl 2 rfl) ?_
      obtain ⟨r7, y8, y9, y10, h6, hm⟩ := jb_out4 hm
      refine kX2_append (ws := (wdX cJ cG cI oX oXp oXg oG0 oGa0 oG1 oGa1 oG2 oGa2 oQ oQw oI oR oRh oRm oB oBw oS oSs oF oFr oFs oFc oFw xpi gs0 ga0 gs1 ga1 gs2 ga2 qln qwy ijn rsz rhi rmi bsz bfi bla bar bwi srim sst fw fc fwh fbo fra fst fco fro)) (wr := [(oX, .inr (7, [.ref oF, .ref oXp, .ref oS, .ref oXg, .ref oQ, .ref oI, .ref oR, .ref oB])), (oXp, .inl (cJ, 5, .inr (.inl xpi))), (oXg, .inl (cG, 3, .inr (.inr (.inr (.inr (va_p3 oG0 oG1 oG2)))))), (oG0, .inr (4, [.ref oS, .ref oGa0, .int gs0])), (oGa0, .inl (cI, 8, .inl ga0)), (oG1, .inr (4, [.ref oS, .ref oGa1, .int gs1])), (oGa1, .inl (cI, 8, .inl ga1)), (oG2, .inr (4, [.ref oS, .ref oGa2, .int gs2])), (oGa2, .inl (cI, 8, .inl ga2)), (oQ, .inr (5, [.ref oS, .ref oQw, .int qln])), (oQw, .inl (cI, 4, .inl qwy)), (oI, .inr (3, [.ref oF, .int ijn])), (oB, .inr (0, [.ref oF, .ref oBw, .int bsz, .int bfi, .int bla, .int bar])), (oBw, .inl (cJ, 210, .inr (.inl bwi)))]) ⟨hx, hb, hml, hown, hts⟩ qw_434 [12, 13, 14, 17, 18, 19, 20, 21, 22, 23] [0, 1, 2, 3, 4, 5, 6, 7, 8, 9, 10, 11, 15, 16] rfl rfl (by decide) (by decide) (by decide) (hK.sub (tys' := [(cI, .int), (cJ, .long)]) [0, 1] rfl) h6 hl.1 ⟨Nat.le_trans (by decide) hR.1, Nat.le_trans (by decide) hR.2.1, hR.2.2⟩ (Nat.le_of_ble_eq_true rfl) dX7_pair_22 hP hD hS hA (fun H locs hP hD hS => ?_)
      have hP : va_P D vwCl (wdX cJ cG cI oX oXp oXg oG0 oGa0 oG1 oGa1 oG2 oGa2 oQ oQw oI oR oRh oRm oB oBw oS oSs oF oFr oFs oFc oFw xpi gs0 ga0 gs1 ga1 gs2 ga2 qln qwy ijn y8 y9 y10 bsz bfi bla bar bwi srim sst fw fc fwh fbo fra fst fco fro) H := hP.sub [0, 1, 2, 3, 4, 5, 6, 7, 8, 9, 10, 11, 14, 15, 16, 12, 13, 17, 18, 19, 20, 21, 22, 23] rfl
      have hD : va_D A (wdX cJ cG cI oX oXp oXg oG0 oGa0 oG1 oGa1 oG2 oGa2 oQ oQw oI oR oRh oRm oB oBw oS oSs oF oFr oFs oFc oFw xpi gs0 ga0 gs1 ga1 gs2 ga2 qln qwy ijn y8 y9 y10 bsz bfi bla bar bwi srim sst fw fc fwh fbo fra fst fco fro) := hD.sub [0, 1, 2, 3, 4, 5, 6, 7, 8, 9, 10, 11, 14, 15, 16, 12, 13, 17, 18, 19, 20, 21, 22, 23] (by decide) rfl
      refine lv_if_eq (tgt := 40) hx hb dX7_pair_25 (by decide) (fun c11 => ?_) (fun c11 => ?_)
      · rw [if_pos c11] at hm
        refine lv_bipush (v := (-4 : Int32)) hx hb dX7_pair_40 (by decide) ?_
        have hm := Option.some.inj hm
        have e9 : r = (-4 : Int32) := (congrArg (fun q => q.1) hm).symm
        rw [e9] at K
        have e9 : y_rsz = y8 := (congrArg (fun q => q.2.1) hm).symm
        rw [e9] at K
        have e9 : y_rhi = y9 := (congrArg (fun q => q.2.2.1) hm).symm
        rw [e9] at K
        have e9 : y_rmi = y10 := (congrArg (fun q => q.2.2.2) hm).symm
        rw [e9] at K
        exact K 42 ls _ _ dX7_pair_42 hP hD hS
      · rw [if_neg c11] at hm
        refine lv_aload_n hx hb dX7_pair_28 rfl (lv_at hl 0 rfl) ?_
        refine va_get (D := D) (ci := 7) (v := .ref oR) (C := RX7) (T := TX7) (N := 8) hx hb hts tnX7 hown hK hP 0 rfl rfl 6 (by decide) (hts _ qw_330) (fun _ h9 => h9) rfl dX7_pair_29 ?_
        refine va_get (D := D) (ci := 2) (v := .int y8) (C := RX2) (T := TX2) (N := 5) hx hb hts tnX2 hown hK hP 12 rfl rfl 4 (by decide) (hts _ qw_331) (fun _ h9 => h9) rfl dX7_pair_32 ?_
        refine lv_iconst (v := (1 : Int32)) hx hb dX7_pair_35 (by decide) ?_
        refine lv_isub hx hb dX7_pair_36 ?_
        refine lv_goto (tgt := 42) hx hb dX7_pair_37 (by decide) ?_
        have hm := Option.some.inj hm
        have e9 : r = (y8 - (1 : Int32)) := (congrArg (fun q => q.1) hm).symm
        rw [e9] at K
        have e9 : y_rsz = y8 := (congrArg (fun q => q.2.1) hm).symm
        rw [e9] at K
        have e9 : y_rhi = y9 := (congrArg (fun q => q.2.2.1) hm).symm
        rw [e9] at K
        have e9 : y_rmi = y10 := (congrArg (fun q => q.2.2.2) hm).symm
        rw [e9] at K
        exact K 42 ls _ _ dX7_pair_42 hP hD hS
    · rw [if_pos c4] at hm
      refine lv_iconst (v := (-1 : Int32)) hx hb dX7_pair_14 (by decide) ?_
      have hm := Option.some.inj hm
      have e9 : r = (-1 : Int32) := (congrArg (fun q => q.1) hm).symm
      rw [e9] at K
      have e9 : y_rsz = rsz := (congrArg (fun q => q.2.1) hm).symm
      rw [e9] at K
      have e9 : y_rhi = rhi := (congrArg (fun q => q.2.2.1) hm).symm
      rw [e9] at K
      have e9 : y_rmi = rmi := (congrArg (fun q => q.2.2.2) hm).symm
      rw [e9] at K
      exact K 15 ls _ _ dX7_pair_15 hP hD hS
set_option maxHeartbeats 4000000 in
set_option maxRecDepth 100000 in
theorem tX7_pair (l : Launch) {D : va_G} (sz : Nat) {a1 : Int32} {a2 : Int32} {r : Int32} {y_rsz : (Int32)} {y_rhi : (Nat → Int32)} {y_rmi : (Nat → Int32)} (hm : mX7_pair rsz rhi rmi a1 a2 = some (r, y_rsz, y_rhi, y_rmi)) : Met l yX7_pair (.code yX7_pair cX7_pair 3 (some .int) :: tw) ({ frames := 1, cells := 0, slots := 0, locals := 22 } : Room) (wrP D [.ref oX, .int a1, .int a2] (wdX cJ cG cI oX oXp oXg oG0 oGa0 oG1 oGa1 oG2 oGa2 oQ oQw oI oR oRh oRm oB oBw oS oSs oF oFr oFs oFc oFw xpi gs0 ga0 gs1 ga1 gs2 ga2 qln qwy ijn rsz rhi rmi bsz bfi bla bar bwi srim sst fw fc fwh fbo fra fst fco fro) [(cI, .int), (cJ, .long), (cG, .object "WornShapes$Program")] sz) (va_Qi (fun q (_ : Unit) => q = r) (fun (_ : Unit) (t : State) => va_P D vwCl (wdX cJ cG cI oX oXp oXg oG0 oGa0 oG1 oGa1 oG2 oGa2 oQ oQw oI oR oRh oRm oB oBw oS oSs oF oFr oFs oFc oFw xpi gs0 ga0 gs1 ga1 gs2 ga2 qln qwy ijn y_rsz y_rhi y_rmi bsz bfi bla bar bwi srim sst fw fc fwh fbo fra fst fco fro) t.heap ∧ va_K D vwCl [(cI, .int), (cJ, .long), (cG, .object "WornShapes$Program")] t ∧ va_D (va_A (wdX cJ cG cI oX oXp oXg oG0 oGa0 oG1 oGa1 oG2 oGa2 oQ oQw oI oR oRh oRm oB oBw oS oSs oF oFr oFs oFc oFw xpi gs0 ga0 gs1 ga1 gs2 ga2 qln qwy ijn rsz rhi rmi bsz bfi bla bar bwi srim sst fw fc fwh fbo fra fst fco fro) sz) (wdX cJ cG cI oX oXp oXg oG0 oGa0 oG1 oGa1 oG2 oGa2 oQ oQw oI oR oRh oRm oB oBw oS oSs oF oFr oFs oFc oFw xpi gs0 ga0 gs1 ga1 gs2 ga2 qln qwy ijn y_rsz y_rhi y_rmi bsz bfi bla bar bwi srim sst fw fc fwh fbo fra fst fco fro)) (va_A (wdX cJ cG cI oX oXp oXg oG0 oGa0 oG1 oGa1 oG2 oGa2 oQ oQw oI oR oRh oRm oB oBw oS oSs oF oFr oFs oFc oFw xpi gs0 ga0 gs1 ga1 gs2 ga2 qln qwy ijn rsz rhi rmi bsz bfi bla bar bwi srim sst fw fc fwh fbo fra fst fco fro) sz)) 0 0 (va_A (wdX cJ cG cI oX oXp oXg oG0 oGa0 oG1 oGa1 oG2 oGa2 oQ oQw oI oR oRh oRm oB oBw oS oSs oF oFr oFs oFc oFw xpi gs0 ga0 gs1 ga1 gs2 ga2 qln qwy ijn rsz rhi rmi bsz bfi bla bar bwi srim sst fw fc fwh fbo fra fst fco fro) sz) := by
  refine Met.ofW (cc := cX7_pair) (maxL := 3) (ret := (some .int)) (by decide) rfl ?_
  intro p e s m args below meth c s₁ B hml hv
  obtain ⟨rfl, hsz, hP, hK, hD0⟩ := hv
  have hx := B.exec
  have hb := B.bytes
  have hr := B.returns
  have hts : ∀ w ∈ tw, w.before _ s = true := fun w h => atoms_spec (ws := .code yX7_pair cX7_pair 3 (some .int) :: tw) B.pre w (List.mem_cons_of_mem _ h)
  have hown : s.vm.findClass RX7 = some m.cls := findClass_of_methodNamed B.named
  have hlocks := B.notSynchronized
  subst hsz
  have hD := hD0.self (sz := s.heap.size)
  have hl := lv_entry ([.ref oX, .int a1, .int a2]) (n := 3) (Nat.le_of_ble_eq_true rfl)
  rw [lg_entry_eq]
  generalize (lg_sl ([.ref oX, .int a1, .int a2]) ++ List.replicate (3 - (lg_sl ([.ref oX, .int a1, .int a2])).length) Slot.unset).toArray = ls at hl ⊢
  refine bX7_pair hx hb hml hown hts hK (fun q h => Or.inr h) ⟨Nat.le_of_ble_eq_true rfl, Nat.le_of_ble_eq_true rfl, Nat.zero_le _, Nat.zero_le _⟩ hm ls hl hP hD va_S.rf (fun pc ls H locs hd hP hD hS => ?_)
  exact W.iret hx hb hr (fun t ht hW => ⟨⟨r, (), rfl, rfl, by rw [ht]; exact hP, va_K.moved hW.alike hK, hD⟩, hS.F ht⟩) hS.2.2 hd
set_option maxHeartbeats 4000000 in
set_option maxRecDepth 100000 in
theorem kX7_pair {own : String} {cc : ByteArray} {nL idx pc : Nat} {ls : Array Slot} {rest : List Value} {ws wr : va_W} {a1 : Int32} {a2 : Int32} {r : Int32} {y_rsz : (Int32)} {y_rhi : (Nat → Int32)} {y_rmi : (Nat → Int32)} (fx : CallFix p m c cc nL s args tw own) (hq : Cond.methodLink own idx yX7_pair ∈ tw) (isC isR : List Nat) (hC : isC.map (fun i => ws[i]?) = ((wdX cJ cG cI oX oXp oXg oG0 oGa0 oG1 oGa1 oG2 oGa2 oQ oQw oI oR oRh oRm oB oBw oS oSs oF oFr oFs oFc oFw xpi gs0 ga0 gs1 ga1 gs2 ga2 qln qwy ijn rsz rhi rmi bsz bfi bla bar bwi srim sst fw fc fwh fbo fra fst fco fro) : va_W).map some) (hRr : isR.map (fun i => ws[i]?) = wr.map some) (hnC : va_nd isC = true) (hn : va_nd isR = true) (hdis : ∀ i ∈ isR, i ∉ isC) (hK : va_K D vwCl [(cI, .int), (cJ, .long), (cG, .object "WornShapes$Program")] s) (hm : mX7_pair rsz rhi rmi a1 a2 = some (r, y_rsz, y_rhi, y_rmi)) (hsz : ls.size = nL) (hR : 2 ≤ R.frames ∧ 44 ≤ R.locals ∧ cells ≤ R.cells ∧ slots ≤ R.slots) (hst : (rest.map fun v => v.category).sum ≤ 8) (hd : decode cc pc = .ok (.invokevirtual idx, 3)) (hP : va_P D vwCl ws H) (hD : va_D A ws) (hS : va_S A s.heap H locs) (hA : ∀ q, s.heap.size ≤ q → A q) (kk : ∀ (H : Heap) (locs : List Loc), va_P D vwCl (wr ++ (wdX cJ cG cI oX oXp oXg oG0 oGa0 oG1 oGa1 oG2 oGa2 oQ oQw oI oR oRh oRm oB oBw oS oSs oF oFr oFs oFc oFw xpi gs0 ga0 gs1 ga1 gs2 ga2 qln qwy ijn y_rsz y_rhi y_rmi bsz bfi bla bar bwi srim sst fw fc fwh fbo fra fst fco fro)) H → va_D A (wr ++ (wdX cJ cG cI oX oXp oXg oG0 oGa0 oG1 oGa1 oG2 oGa2 oQ oQw oI oR oRh oRm oB oBw oS oSs oF oFr oFs oFc oFw xpi gs0 ga0 gs1 ga1 gs2 ga2 qln qwy ijn y_rsz y_rhi y_rmi bsz bfi bla bar bwi srim sst fw fc fwh fbo fra fst fco fro)) → va_S A s.heap H locs → W p l e R s m args below meth c H locs cells slots Q (F0 m (pc + 3) ls (.int r :: rest))) : W p l e R s m args below meth c H locs cells slots Q (F0 m pc ls (.int a2 :: .int a1 :: .ref oX :: rest)) := by
  have hPc := va_P.subM hP isC hC
  have hDc := hD.sub isC hnC hC
  have hFc := va_free (wc := (wdX cJ cG cI oX oXp oXg oG0 oGa0 oG1 oGa1 oG2 oGa2 oQ oQw oI oR oRh oRm oB oBw oS oSs oF oFr oFs oFc oFw xpi gs0 ga0 gs1 ga1 gs2 ga2 qln qwy ijn rsz rhi rmi bsz bfi bla bar bwi srim sst fw fc fwh fbo fra fst fco fro)) hD hS hA isC hC
  refine va_calli (va_runV (As := [.int a1, .int a2]) (rest := rest) fx (tX7_pair l H.size hm) (cwV 2 fx.2.2.2.2 (tw_V hq qw_435 qw_436 qw_288 qw_437) rfl rfl rfl (by decide +kernel) ⟨hR.1, hR.2.1⟩) ⟨wrP_bl, va_recv hK hPc (ci := 7) (q0 := 0) rfl rfl, wrP_ok hPc hK hDc⟩ rfl rfl hsz rfl (lv_room hst) hd ⟨hR.2.2.1, hR.2.2.2⟩) hS (fun q _ h => hFc q h) hFc (fun r9 u t H1 locs ht hvm hw hB hz1 hk1 hS => ?_)
  obtain ⟨hP1, hK1, hD1⟩ := hB
  rw [ht] at hP1
  rw [hw]
  obtain ⟨hP2, hD2⟩ := va_join (wr := wr) (w1 := (wdX cJ cG cI oX oXp oXg oG0 oGa0 oG1 oGa1 oG2 oGa2 oQ oQw oI oR oRh oRm oB oBw oS oSs oF oFr oFs oFc oFw xpi gs0 ga0 gs1 ga1 gs2 ga2 qln qwy ijn y_rsz y_rhi y_rmi bsz bfi bla bar bwi srim sst fw fc fwh fbo fra fst fco fro)) hP hD isC isR hC hRr hn hdis hk1 hFc hP1 hD1
  exact kk H1 locs hP2 hD2 hS
-- X7_forget
def mX7_forget (rsz : Int32) : Option (Int32 × (Int32)) :=
  (if rsz = 0 then (some ((-3 : Int32), rsz)) else (some ((rsz - (1 : Int32)), (rsz - (1 : Int32)))))
theorem dX7_forget_0 : decode cX7_forget 0 = .ok (.aload_n 0, 1) := by decide +kernel
theorem dX7_forget_1 : decode cX7_forget 1 = .ok (.getfield 59, 3) := by decide +kernel
theorem dX7_forget_4 : decode cX7_forget 4 = .ok (.getfield 178, 3) := by decide +kernel
theorem dX7_forget_7 : decode cX7_forget 7 = .ok (.ifCond .ne 6, 3) := by decide +kernel
theorem dX7_forget_10 : decode cX7_forget 10 = .ok (.bipush (-3), 2) := by decide +kernel
theorem dX7_forget_12 : decode cX7_forget 12 = .ok (.ireturn, 1) := by decide +kernel
theorem dX7_forget_13 : decode cX7_forget 13 = .ok (.aload_n 0, 1) := by decide +kernel
theorem dX7_forget_14 : decode cX7_forget 14 = .ok (.getfield 59, 3) := by decide +kernel
theorem dX7_forget_17 : decode cX7_forget 17 = .ok (.dup, 1) := by decide +kernel
theorem dX7_forget_18 : decode cX7_forget 18 = .ok (.getfield 178, 3) := by decide +kernel
theorem dX7_forget_21 : decode cX7_forget 21 = .ok (.iconst 1, 1) := by decide +kernel
theorem dX7_forget_22 : decode cX7_forget 22 = .ok (.isub, 1) := by decide +kernel
theorem dX7_forget_23 : decode cX7_forget 23 = .ok (.putfield 178, 3) := by decide +kernel
theorem dX7_forget_26 : decode cX7_forget 26 = .ok (.aload_n 0, 1) := by decide +kernel
theorem dX7_forget_27 : decode cX7_forget 27 = .ok (.getfield 59, 3) := by decide +kernel
theorem dX7_forget_30 : decode cX7_forget 30 = .ok (.getfield 178, 3) := by decide +kernel
theorem dX7_forget_33 : decode cX7_forget 33 = .ok (.ireturn, 1) := by decide +kernel
set_option maxHeartbeats 4000000 in
set_option maxRecDepth 100000 in
theorem bX7_forget {r : Int32} {y_rsz : (Int32)} (hx : p.tables.exec = Jvm.exec) (hb : c.code = cX7_forget) (hml : c.maxLocals = 1) (hown : s.vm.findClass RX7 = some m.cls) (hts : ∀ w ∈ tw, w.before args s = true) (hK : va_K D vwCl [(cI, .int), (cJ, .long), (cG, .object "WornShapes$Program")] s) (hA : ∀ q, s.heap.size ≤ q → A q) (hR : 0 ≤ R.frames ∧ 0 ≤ R.locals ∧ cells ≤ R.cells ∧ slots ≤ R.slots) (hm : mX7_forget rsz = some (r, y_rsz)) (ls : Array Slot) (hl : lv_has ls 1 [(0, .ref oX)]) (hP : va_P D vwCl (wdX cJ cG cI oX oXp oXg oG0 oGa0 oG1 oGa1 oG2 oGa2 oQ oQw oI oR oRh oRm oB oBw oS oSs oF oFr oFs oFc oFw xpi gs0 ga0 gs1 ga1 gs2 ga2 qln qwy ijn rsz rhi rmi bsz bfi bla bar bwi srim sst fw fc fwh fbo fra fst fco fro) H) (hD : va_D A (wdX cJ cG cI oX oXp oXg oG0 oGa0 oG1 oGa1 oG2 oGa2 oQ oQw oI oR oRh oRm oB oBw oS oSs oF oFr oFs oFc oFw xpi gs0 ga0 gs1 ga1 gs2 ga2 qln qwy ijn rsz rhi rmi bsz bfi bla bar bwi srim sst fw fc fwh fbo fra fst fco fro)) (hS : va_S A s.heap H locs) (K : ∀ (pc : Nat) (ls : Array Slot) (H : Heap) (locs : List Loc), decode cX7_forget pc = .ok (.ireturn, 1) → va_P D vwCl (wdX cJ cG cI oX oXp oXg oG0 oGa0 oG1 oGa1 oG2 oGa2 oQ oQw oI oR oRh oRm oB oBw oS oSs oF oFr oFs oFc oFw xpi gs0 ga0 gs1 ga1 gs2 ga2 qln qwy ijn y_rsz rhi rmi bsz bfi bla bar bwi srim sst fw fc fwh fbo fra fst fco fro) H → va_D A (wdX cJ cG cI oX oXp oXg oG0 oGa0 oG1 oGa1 oG2 oGa2 oQ oQw oI oR oRh oRm oB oBw oS oSs oF oFr oFs oFc oFw xpi gs0 ga0 gs1 ga1 gs2 ga2 qln qwy ijn y_rsz rhi rmi bsz bfi bla bar bwi srim sst fw fc fwh fbo fra fst fco fro) → va_S A s.heap H locs → W p l e R s m args below meth c H locs cells slots Q (F0 m pc ls [.int r])) : W p l e R s m args below meth c H locs cells slots Q (F0 m 0 ls []) := by
  unfold mX7_forget at hm
  refine lv_aload_n hx hb dX7_forget_0 rfl (lv_at hl 0 rfl) ?_
  refine va_get (D := D) (ci := 7) (v := .ref oR) (C := RX7) (T := TX7) (N := 8) hx hb hts tnX7 hown hK hP 0 rfl rfl 6 (by decide) (hts _ qw_330) (fun _ h9 => h9) rfl dX7_forget_1 ?_
  refine va_get (D := D) (ci := 2) (v := .int rsz) (C := RX2) (T := TX2) (N := 5) hx hb hts tnX2 hown hK hP 12 rfl rfl 4 (by decide) (hts _ qw_331) (fun _ h9 => h9) rfl dX7_forget_4 ?_
  refine lv_if_ne (tgt := 13) hx hb dX7_forget_7 (by decide) (fun c1 => ?_) (fun c1 => ?_)
  · rw [if_neg c1] at hm
    refine lv_aload_n hx hb dX7_forget_13 rfl (lv_at hl 0 rfl) ?_
    refine va_get (D := D) (ci := 7) (v := .ref oR) (C := RX7) (T := TX7) (N := 8) hx hb hts tnX7 hown hK hP 0 rfl rfl 6 (by decide) (hts _ qw_330) (fun _ h9 => h9) rfl dX7_forget_14 ?_
    refine lv_dup hx hb dX7_forget_17 rfl ?_
    refine va_get (D := D) (ci := 2) (v := .int rsz) (C := RX2) (T := TX2) (N := 5) hx hb hts tnX2 hown hK hP 12 rfl rfl 4 (by decide) (hts _ qw_331) (fun _ h9 => h9) rfl dX7_forget_18 ?_
    refine lv_iconst (v := (1 : Int32)) hx hb dX7_forget_21 (by decide) ?_
    refine lv_isub hx hb dX7_forget_22 ?_
    refine va_put (D := D) (ci := 2) (v := .int (rsz - (1 : Int32))) (ty := .int) (C := RX2) (T := TX2) (N := 5) hx hb hts tnX2 tyX2 tyX2_ok nmX2 hown hK hP hD hS 12 rfl rfl 4 (by decide) (hts _ qw_331) (fun _ h9 => h9) rfl (by decide +kernel) rfl rfl (Nat.le_of_ble_eq_true rfl) dX7_forget_23 (fun H locs hP hD hS => ?_)
    have hP : va_P D vwCl (wdX cJ cG cI oX oXp oXg oG0 oGa0 oG1 oGa1 oG2 oGa2 oQ oQw oI oR oRh oRm oB oBw oS oSs oF oFr oFs oFc oFw xpi gs0 ga0 gs1 ga1 gs2 ga2 qln qwy ijn (rsz - (1 : Int32)) rhi rmi bsz bfi bla bar bwi srim sst fw fc fwh fbo fra fst fco fro) H := hP
    have hD : va_D A (wdX cJ cG cI oX oXp oXg oG0 oGa0 oG1 oGa1 oG2 oGa2 oQ oQw oI oR oRh oRm oB oBw oS oSs oF oFr oFs oFc oFw xpi gs0 ga0 gs1 ga1 gs2 ga2 qln qwy ijn (rsz - (1 : Int32)) rhi rmi bsz bfi bla bar bwi srim sst fw fc fwh fbo fra fst fco fro) := hD
    refine lv_aload_n hx hb dX7_forget_26 rfl (lv_at hl 0 rfl) ?_
    refine va_get (D := D) (ci := 7) (v := .ref oR) (C := RX7) (T := TX7) (N := 8) hx hb hts tnX7 hown hK hP 0 rfl rfl 6 (by decide) (hts _ qw_330) (fun _ h9 => h9) rfl dX7_forget_27 ?_
    refine va_get (D := D) (ci := 2) (v := .int (rsz - (1 : Int32))) (C := RX2) (T := TX2) (N := 5) hx hb hts tnX2 hown hK hP 12 rfl rfl 4 (by decide) (hts _ qw_331) (fun _ h9 => h9) rfl dX7_forget_30 ?_
    have hm := Option.some.inj hm
    have e9 : r = (rsz - (1 : Int32)) := (congrArg (fun q => q.1) hm).symm
    rw [e9] at K
    have e9 : y_rsz = (rsz - (1 : Int32)) := (congrArg (fun q => q.2) hm).symm
    rw [e9] at K
    exact K 33 ls _ _ dX7_forget_33 hP hD hS
  · rw [if_pos c1] at hm
    refine lv_bipush (v := (-3 : Int32)) hx hb dX7_forget_10 (by decide) ?_
    have hm := Option.some.inj hm
    have e9 : r = (-3 : Int32) := (congrArg (fun q => q.1) hm).symm
    rw [e9] at K
    have e9 : y_rsz = rsz := (congrArg (fun q => q.2) hm).symm
    rw [e9] at K
    exact K 12 ls _ _ dX7_forget_12 hP hD hS
set_option maxHeartbeats 4000000 in
set_option maxRecDepth 100000 in
theorem tX7_forget (l : Launch) {D : va_G} (sz : Nat) {r : Int32} {y_rsz : (Int32)} (hm : mX7_forget rsz = some (r, y_rsz)) : Met l yX7_forget (.code yX7_forget cX7_forget 1 (some .int) :: tw) ({ frames := 0, cells := 0, slots := 0, locals := 0 } : Room) (wrP D [.ref oX] (wdX cJ cG cI oX oXp oXg oG0 oGa0 oG1 oGa1 oG2 oGa2 oQ oQw oI oR oRh oRm oB oBw oS oSs oF oFr oFs oFc oFw xpi gs0 ga0 gs1 ga1 gs2 ga2 qln qwy ijn rsz rhi rmi bsz bfi bla bar bwi srim sst fw fc fwh fbo fra fst fco fro) [(cI, .int), (cJ, .long), (cG, .object "WornShapes$Program")] sz) (va_Qi (fun q (_ : Unit) => q = r) (fun (_ : Unit) (t : State) => va_P D vwCl (wdX cJ cG cI oX oXp oXg oG0 oGa0 oG1 oGa1 oG2 oGa2 oQ oQw oI oR oRh oRm oB oBw oS oSs oF oFr oFs oFc oFw xpi gs0 ga0 gs1 ga1 gs2 ga2 qln qwy ijn y_rsz rhi rmi bsz bfi bla bar bwi srim sst fw fc fwh fbo fra fst fco fro) t.heap ∧ va_K D vwCl [(cI, .int), (cJ, .long), (cG, .object "WornShapes$Program")] t ∧ va_D (va_A (wdX cJ cG cI oX oXp oXg oG0 oGa0 oG1 oGa1 oG2 oGa2 oQ oQw oI oR oRh oRm oB oBw oS oSs oF oFr oFs oFc oFw xpi gs0 ga0 gs1 ga1 gs2 ga2 qln qwy ijn rsz rhi rmi bsz bfi bla bar bwi srim sst fw fc fwh fbo fra fst fco fro) sz) (wdX cJ cG cI oX oXp oXg oG0 oGa0 oG1 oGa1 oG2 oGa2 oQ oQw oI oR oRh oRm oB oBw oS oSs oF oFr oFs oFc oFw xpi gs0 ga0 gs1 ga1 gs2 ga2 qln qwy ijn y_rsz rhi rmi bsz bfi bla bar bwi srim sst fw fc fwh fbo fra fst fco fro)) (va_A (wdX cJ cG cI oX oXp oXg oG0 oGa0 oG1 oGa1 oG2 oGa2 oQ oQw oI oR oRh oRm oB oBw oS oSs oF oFr oFs oFc oFw xpi gs0 ga0 gs1 ga1 gs2 ga2 qln qwy ijn rsz rhi rmi bsz bfi bla bar bwi srim sst fw fc fwh fbo fra fst fco fro) sz)) 0 0 (va_A (wdX cJ cG cI oX oXp oXg oG0 oGa0 oG1 oGa1 oG2 oGa2 oQ oQw oI oR oRh oRm oB oBw oS oSs oF oFr oFs oFc oFw xpi gs0 ga0 gs1 ga1 gs2 ga2 qln qwy ijn rsz rhi rmi bsz bfi bla bar bwi srim sst fw fc fwh fbo fra fst fco fro) sz) := by
  refine Met.ofW (cc := cX7_forget) (maxL := 1) (ret := (some .int)) (by decide) rfl ?_
  intro p e s m args below meth c s₁ B hml hv
  obtain ⟨rfl, hsz, hP, hK, hD0⟩ := hv
  have hx := B.exec
  have hb := B.bytes
  have hr := B.returns
  have hts : ∀ w ∈ tw, w.before _ s = true := fun w h => atoms_spec (ws := .code yX7_forget cX7_forget 1 (some .int) :: tw) B.pre w (List.mem_cons_of_mem _ h)
  have hown : s.vm.findClass RX7 = some m.cls := findClass_of_methodNamed B.named
  have hlocks := B.notSynchronized
  subst hsz
  have hD := hD0.self (sz := s.heap.size)
  have hl := lv_entry ([.ref oX]) (n := 1) (Nat.le_of_ble_eq_true rfl)
  rw [lg_entry_eq]
  generalize (lg_sl ([.ref oX]) ++ List.replicate (1 - (lg_sl ([.ref oX])).length) Slot.unset).toArray = ls at hl ⊢
  refine bX7_forget hx hb hml hown hts hK (fun q h => Or.inr h) ⟨Nat.le_of_ble_eq_true rfl, Nat.le_of_ble_eq_true rfl, Nat.zero_le _, Nat.zero_le _⟩ hm ls hl hP hD va_S.rf (fun pc ls H locs hd hP hD hS => ?_)
  exact W.iret hx hb hr (fun t ht hW => ⟨⟨r, (), rfl, rfl, by rw [ht]; exact hP, va_K.moved hW.alike hK, hD⟩, hS.F ht⟩) hS.2.2 hd
set_option maxHeartbeats 4000000 in
set_option maxRecDepth 100000 in
theorem kX7_forget {own : String} {cc : ByteArray} {nL idx pc : Nat} {ls : Array Slot} {rest : List Value} {ws wr : va_W} {r : Int32} {y_rsz : (Int32)} (fx : CallFix p m c cc nL s args tw own) (hq : Cond.methodLink own idx yX7_forget ∈ tw) (isC isR : List Nat) (hC : isC.map (fun i => ws[i]?) = ((wdX cJ cG cI oX oXp oXg oG0 oGa0 oG1 oGa1 oG2 oGa2 oQ oQw oI oR oRh oRm oB oBw oS oSs oF oFr oFs oFc oFw xpi gs0 ga0 gs1 ga1 gs2 ga2 qln qwy ijn rsz rhi rmi bsz bfi bla bar bwi srim sst fw fc fwh fbo fra fst fco fro) : va_W).map some) (hRr : isR.map (fun i => ws[i]?) = wr.map some) (hnC : va_nd isC = true) (hn : va_nd isR = true) (hdis : ∀ i ∈ isR, i ∉ isC) (hK : va_K D vwCl [(cI, .int), (cJ, .long), (cG, .object "WornShapes$Program")] s) (hm : mX7_forget rsz = some (r, y_rsz)) (hsz : ls.size = nL) (hR : 1 ≤ R.frames ∧ 20 ≤ R.locals ∧ cells ≤ R.cells ∧ slots ≤ R.slots) (hst : (rest.map fun v => v.category).sum ≤ 8) (hd : decode cc pc = .ok (.invokevirtual idx, 3)) (hP : va_P D vwCl ws H) (hD : va_D A ws) (hS : va_S A s.heap H locs) (hA : ∀ q, s.heap.size ≤ q → A q) (kk : ∀ (H : Heap) (locs : List Loc), va_P D vwCl (wr ++ (wdX cJ cG cI oX oXp oXg oG0 oGa0 oG1 oGa1 oG2 oGa2 oQ oQw oI oR oRh oRm oB oBw oS oSs oF oFr oFs oFc oFw xpi gs0 ga0 gs1 ga1 gs2 ga2 qln qwy ijn y_rsz rhi rmi bsz bfi bla bar bwi srim sst fw fc fwh fbo fra fst fco fro)) H → va_D A (wr ++ (wdX cJ cG cI oX oXp oXg oG0 oGa0 oG1 oGa1 oG2 oGa2 oQ oQw oI oR oRh oRm oB oBw oS oSs oF oFr oFs oFc oFw xpi gs0 ga0 gs1 ga1 gs2 ga2 qln qwy ijn y_rsz rhi rmi bsz bfi bla bar bwi srim sst fw fc fwh fbo fra fst fco fro)) → va_S A s.heap H locs → W p l e R s m args below meth c H locs cells slots Q (F0 m (pc + 3) ls (.int r :: rest))) : W p l e R s m args below meth c H locs cells slots Q (F0 m pc ls (.ref oX :: rest)) := by
  have hPc := va_P.subM hP isC hC
  have hDc := hD.sub isC hnC hC
  have hFc := va_free (wc := (wdX cJ cG cI oX oXp oXg oG0 oGa0 oG1 oGa1 oG2 oGa2 oQ oQw oI oR oRh oRm oB oBw oS oSs oF oFr oFs oFc oFw xpi gs0 ga0 gs1 ga1 gs2 ga2 qln qwy ijn rsz rhi rmi bsz bfi bla bar bwi srim sst fw fc fwh fbo fra fst fco fro)) hD hS hA isC hC
  refine va_calli (va_runV (As := []) (rest := rest) fx (tX7_forget l H.size hm) (cwV 0 fx.2.2.2.2 (tw_V hq qw_438 qw_439 qw_288 qw_440) rfl rfl rfl (by decide +kernel) ⟨hR.1, hR.2.1⟩) ⟨wrP_bl, va_recv hK hPc (ci := 7) (q0 := 0) rfl rfl, wrP_ok hPc hK hDc⟩ rfl rfl hsz rfl (lv_room hst) hd ⟨hR.2.2.1, hR.2.2.2⟩) hS (fun q _ h => hFc q h) hFc (fun r9 u t H1 locs ht hvm hw hB hz1 hk1 hS => ?_)
  obtain ⟨hP1, hK1, hD1⟩ := hB
  rw [ht] at hP1
  rw [hw]
  obtain ⟨hP2, hD2⟩ := va_join (wr := wr) (w1 := (wdX cJ cG cI oX oXp oXg oG0 oGa0 oG1 oGa1 oG2 oGa2 oQ oQw oI oR oRh oRm oB oBw oS oSs oF oFr oFs oFc oFw xpi gs0 ga0 gs1 ga1 gs2 ga2 qln qwy ijn y_rsz rhi rmi bsz bfi bla bar bwi srim sst fw fc fwh fbo fra fst fco fro)) hP hD isC isR hC hRr hn hdis hk1 hFc hP1 hD1
  exact kk H1 locs hP2 hD2 hS
-- X7_thin
def mX7_thin_L13 (n : Nat) (fc : Int32) (v1 : Int32) (rsz : Int32) (rhi : Nat → Int32) (rmi : Nat → Int32) (fra : Nat → Int32) (fst : Nat → Int64) (sst : Nat → Int32) : Nat → (Int32) → (Int32) → (Nat → Int64) → Option (((Int32) × (Nat → Int64)) ⊕ ((Int32) × (Nat → Int64)))
  | 0, _, _, _ => none
  | k + 1, v2, v3, xpi => (if fc ≤ v3 then some (.inr ((v2, xpi))) else gd (ib v1 5) (jb (mX2_afterRound n rsz rhi rmi fra fst sst (xpi v1.toNatClampNeg)) (fun (r6 : Int64) => gd (ib v1 5) ((if r6 = (xpi v1.toNatClampNeg) then some (.inl ((v2, xpi))) else gd (ib v1 5) (mX7_thin_L13 n fc v1 rsz rhi rmi fra fst sst k (v2 + (1 : Int32)) (v3 + (1 : Int32)) (vp_updL xpi v1.toNatClampNeg r6)))))))
def mX7_thin (n : Nat) (xpi : Nat → Int64) (fc : Int32) (rsz : Int32) (rhi : Nat → Int32) (rmi : Nat → Int32) (fra : Nat → Int32) (fst : Nat → Int64) (sst : Nat → Int32) (a1 : Int32) : Option (Int32 × (Nat → Int64)) :=
  (if (mX7_isPicture a1) = 0 then (some ((-1 : Int32), xpi)) else jb (mX7_thin_L13 n fc a1 rsz rhi rmi fra fst sst n (0 : Int32) (0 : Int32) xpi) (fun q => el2 q (fun q => pr2 q (fun (y11 : Int32) (y12 : Nat → Int64) => (some (y11, y12)))) (fun q => pr2 q (fun (y13 : Int32) (y14 : Nat → Int64) => (some (y13, y14))))))
theorem dX7_thin_0 : decode cX7_thin 0 = .ok (.iload_n 1, 1) := by decide +kernel
theorem dX7_thin_1 : decode cX7_thin 1 = .ok (.invokestatic 81, 3) := by decide +kernel
theorem dX7_thin_4 : decode cX7_thin 4 = .ok (.ifCond .ne 5, 3) := by decide +kernel
theorem dX7_thin_7 : decode cX7_thin 7 = .ok (.iconst (-1), 1) := by decide +kernel
theorem dX7_thin_8 : decode cX7_thin 8 = .ok (.ireturn, 1) := by decide +kernel
theorem dX7_thin_9 : decode cX7_thin 9 = .ok (.iconst 0, 1) := by decide +kernel
theorem dX7_thin_10 : decode cX7_thin 10 = .ok (.istore_n 2, 1) := by decide +kernel
theorem dX7_thin_11 : decode cX7_thin 11 = .ok (.iconst 0, 1) := by decide +kernel
theorem dX7_thin_12 : decode cX7_thin 12 = .ok (.istore_n 3, 1) := by decide +kernel
theorem dX7_thin_13 : decode cX7_thin 13 = .ok (.iload_n 3, 1) := by decide +kernel
theorem dX7_thin_14 : decode cX7_thin 14 = .ok (.aload_n 0, 1) := by decide +kernel
theorem dX7_thin_15 : decode cX7_thin 15 = .ok (.getfield 14, 3) := by decide +kernel
theorem dX7_thin_18 : decode cX7_thin 18 = .ok (.getfield 77, 3) := by decide +kernel
theorem dX7_thin_21 : decode cX7_thin 21 = .ok (.if_icmp .ge 50, 3) := by decide +kernel
theorem dX7_thin_24 : decode cX7_thin 24 = .ok (.aload_n 0, 1) := by decide +kernel
theorem dX7_thin_25 : decode cX7_thin 25 = .ok (.getfield 59, 3) := by decide +kernel
theorem dX7_thin_28 : decode cX7_thin 28 = .ok (.aload_n 0, 1) := by decide +kernel
theorem dX7_thin_29 : decode cX7_thin 29 = .ok (.getfield 18, 3) := by decide +kernel
theorem dX7_thin_32 : decode cX7_thin 32 = .ok (.iload_n 1, 1) := by decide +kernel
theorem dX7_thin_33 : decode cX7_thin 33 = .ok (.laload, 1) := by decide +kernel
theorem dX7_thin_34 : decode cX7_thin 34 = .ok (.invokevirtual 182, 3) := by decide +kernel
theorem dX7_thin_37 : decode cX7_thin 37 = .ok (.lstore 4, 2) := by decide +kernel
theorem dX7_thin_39 : decode cX7_thin 39 = .ok (.lload 4, 2) := by decide +kernel
theorem dX7_thin_41 : decode cX7_thin 41 = .ok (.aload_n 0, 1) := by decide +kernel
theorem dX7_thin_42 : decode cX7_thin 42 = .ok (.getfield 18, 3) := by decide +kernel
theorem dX7_thin_45 : decode cX7_thin 45 = .ok (.iload_n 1, 1) := by decide +kernel
theorem dX7_thin_46 : decode cX7_thin 46 = .ok (.laload, 1) := by decide +kernel
theorem dX7_thin_47 : decode cX7_thin 47 = .ok (.lcmp, 1) := by decide +kernel
theorem dX7_thin_48 : decode cX7_thin 48 = .ok (.ifCond .ne 6, 3) := by decide +kernel
theorem dX7_thin_51 : decode cX7_thin 51 = .ok (.goto 20, 3) := by decide +kernel
theorem dX7_thin_54 : decode cX7_thin 54 = .ok (.aload_n 0, 1) := by decide +kernel
theorem dX7_thin_55 : decode cX7_thin 55 = .ok (.getfield 18, 3) := by decide +kernel
theorem dX7_thin_58 : decode cX7_thin 58 = .ok (.iload_n 1, 1) := by decide +kernel
theorem dX7_thin_59 : decode cX7_thin 59 = .ok (.lload 4, 2) := by decide +kernel
theorem dX7_thin_61 : decode cX7_thin 61 = .ok (.lastore, 1) := by decide +kernel
theorem dX7_thin_62 : decode cX7_thin 62 = .ok (.iinc 2 1, 3) := by decide +kernel
theorem dX7_thin_65 : decode cX7_thin 65 = .ok (.iinc 3 1, 3) := by decide +kernel
theorem dX7_thin_68 : decode cX7_thin 68 = .ok (.goto (-55), 3) := by decide +kernel
theorem dX7_thin_71 : decode cX7_thin 71 = .ok (.iload_n 2, 1) := by decide +kernel
theorem dX7_thin_72 : decode cX7_thin 72 = .ok (.ireturn, 1) := by decide +kernel
set_option maxHeartbeats 4000000 in
set_option maxRecDepth 100000 in
theorem wX7_thin_L13 {n : Nat} {v1 : Int32} (hx : p.tables.exec = Jvm.exec) (hb : c.code = cX7_thin) (hml : c.maxLocals = 6) (hown : s.vm.findClass RX7 = some m.cls) (hts : ∀ w ∈ tw, w.before args s = true) (hK : va_K D vwCl [(cI, .int), (cJ, .long), (cG, .object "WornShapes$Program")] s) (hA : ∀ q, s.heap.size ≤ q → A q) (hR : 3 ≤ R.frames ∧ 79 ≤ R.locals ∧ cells ≤ R.cells ∧ slots ≤ R.slots) : ∀ (k : Nat) (v2 : Int32) (v3 : Int32) (xpi : Nat → Int64) (x : ((Int32) × (Nat → Int64)) ⊕ ((Int32) × (Nat → Int64))), mX7_thin_L13 n fc v1 rsz rhi rmi fra fst sst k v2 v3 xpi = some x → ∀ ls : Array Slot, lv_has ls 6 [(0, .ref oX), (1, .int v1), (2, .int v2), (3, .int v3)] → ∀ (H : Heap) (locs : List Loc), va_P D vwCl (wdX cJ cG cI oX oXp oXg oG0 oGa0 oG1 oGa1 oG2 oGa2 oQ oQw oI oR oRh oRm oB oBw oS oSs oF oFr oFs oFc oFw xpi gs0 ga0 gs1 ga1 gs2 ga2 qln qwy ijn rsz rhi rmi bsz bfi bla bar bwi srim sst fw fc fwh fbo fra fst fco fro) H → va_D A (wdX cJ cG cI oX oXp oXg oG0 oGa0 oG1 oGa1 oG2 oGa2 oQ oQw oI oR oRh oRm oB oBw oS oSs oF oFr oFs oFc oFw xpi gs0 ga0 gs1 ga1 gs2 ga2 qln qwy ijn rsz rhi rmi bsz bfi bla bar bwi srim sst fw fc fwh fbo fra fst fco fro) → va_S A s.heap H locs → (∀ (x2 : Int32) (x_xpi : Nat → Int64), x = .inl ((x2, x_xpi)) → ∀ ls : Array Slot, lv_has ls 6 [(2, .int x2)] → ∀ (H : Heap) (locs : List Loc), va_P D vwCl (wdX cJ cG cI oX oXp oXg oG0 oGa0 oG1 oGa1 oG2 oGa2 oQ oQw oI oR oRh oRm oB oBw oS oSs oF oFr oFs oFc oFw x_xpi gs0 ga0 gs1 ga1 gs2 ga2 qln qwy ijn rsz rhi rmi bsz bfi bla bar bwi srim sst fw fc fwh fbo fra fst fco fro) H → va_D A (wdX cJ cG cI oX oXp oXg oG0 oGa0 oG1 oGa1 oG2 oGa2 oQ oQw oI oR oRh oRm oB oBw oS oSs oF oFr oFs oFc oFw x_xpi gs0 ga0 gs1 ga1 gs2 ga2 qln qwy ijn rsz rhi rmi bsz bfi bla bar bwi srim sst fw fc fwh fbo fra fst fco fro) → va_S A s.heap H locs → W p l e R s m args below meth c H locs cells slots Q (F0 m 51 ls [])) → (∀ (x2 : Int32) (x_xpi : Nat → Int64), x = .inr ((x2, x_xpi)) → ∀ ls : Array Slot, lv_has ls 6 [(2, .int x2)] → ∀ (H : Heap) (locs : List Loc), va_P D vwCl (wdX cJ cG cI oX oXp oXg oG0 oGa0 oG1 oGa1 oG2 oGa2 oQ oQw oI oR oRh oRm oB oBw oS oSs oF oFr oFs oFc oFw x_xpi gs0 ga0 gs1 ga1 gs2 ga2 qln qwy ijn rsz rhi rmi bsz bfi bla bar bwi srim sst fw fc fwh fbo fra fst fco fro) H → va_D A (wdX cJ cG cI oX oXp oXg oG0 oGa0 oG1 oGa1 oG2 oGa2 oQ oQw oI oR oRh oRm oB oBw oS oSs oF oFr oFs oFc oFw x_xpi gs0 ga0 gs1 ga1 gs2 ga2 qln qwy ijn rsz rhi rmi bsz bfi bla bar bwi srim sst fw fc fwh fbo fra fst fco fro) → va_S A s.heap H locs → W p l e R s m args below meth c H locs cells slots Q (F0 m 71 ls [])) → W p l e R s m args below meth c H locs cells slots Q (F0 m 13 ls []) := by
  intro k
  induction k with
  | zero => intro v2 v3 xpi x hm; rw [mX7_thin_L13] at hm; cases hm
  | succ k ih =>
    intro v2 v3 xpi x hm ls hl H locs hP hD hS K0 K1
    rw [mX7_thin_L13] at hm
    refine lv_iload_n hx hb dX7_thin_13 rfl (lv_at hl 3 rfl) ?_
    refine lv_aload_n hx hb dX7_thin_14 rfl (lv_at hl 0 rfl) ?_
    refine va_get (D := D) (ci := 7) (v := .ref oF) (C := RX7) (T := TX7) (N := 8) hx hb hts tnX7 hown hK hP 0 rfl rfl 0 (by decide) (hts _ qw_302) (fun _ h9 => h9) rfl dX7_thin_15 ?_
    refine va_get (D := D) (ci := 1) (v := .int fc) (C := RX1) (T := TX1) (N := 8) hx hb hts tnX1 hown hK hP 19 rfl rfl 1 (by decide) (hts _ qw_319) (fun _ h9 => h9) rfl dX7_thin_18 ?_
    refine lv_icmp_ge (tgt := 71) hx hb dX7_thin_21 (by decide) (fun c4 => ?_) (fun c4 => ?_)
    · rw [if_pos c4] at hm
      exact K1 _ _ (Option.some.inj hm).symm ls (lv_sub hl [2] rfl) _ _ hP hD hS
    · rw [if_neg c4] at hm
      refine lv_aload_n hx hb dX7_thin_24 rfl (lv_at hl 0 rfl) ?_
      refine va_get (D := D) (ci := 7) (v := .ref oR) (C := RX7) (T := TX7) (N := 8) hx hb hts tnX7 hown hK hP 0 rfl rfl 6 (by decide) (hts _ qw_330) (fun _ h9 => h9) rfl dX7_thin_25 ?_
      refine lv_aload_n hx hb dX7_thin_28 rfl (lv_at hl 0 rfl) ?_
      refine va_get (D := D) (ci := 7) (v := .ref oXp) (C := RX7) (T := TX7) (N := 8) hx hb hts tnX7 hown hK hP 0 rfl rfl 1 (by decide) (hts _ qw_297) (fun _ h9 => h9) rfl dX7_thin_29 ?_
      refine lv_iload_n hx hb dX7_thin_32 rfl (lv_at hl 1 rfl) ?_
      obtain ⟨g5, hm⟩ := gd_out hm
      refine va_lald hx hb hK hP 1 1 rfl rfl g5 dX7_thin_33 ?_
      obtain ⟨r6, h7, hm⟩ := jb_out hm
      refine kX2_afterRound ⟨hx, hb, hml, hown, hts⟩ qw_441 (hP.sub (ws' := (wdR cI cJ oR oRh oRm oS oSs oF oFr oFs oFc oFw rsz rhi rmi srim sst fw fc fwh fbo fra fst fco fro)) [12, 13, 14, 17, 18, 19, 20, 21, 22, 23] rfl) (hK.sub (tys' := [(cI, .int), (cJ, .long)]) [0, 1] rfl) h7 hl.1 ⟨Nat.le_trans (by decide) hR.1, Nat.le_trans (by decide) hR.2.1, hR.2.2⟩ (Nat.le_of_ble_eq_true rfl) dX7_thin_34 ?_
      refine lv_lstore (lv' := [(4, .long r6), (0, .ref oX), (1, .int v1), (2, .int v2), (3, .int v3)]) hx hb dX7_thin_37 hl (by decide) rfl (fun ls hl => ?_)
      refine lv_lload hx hb dX7_thin_39 (lv_at hl 0 rfl) ?_
      refine lv_aload_n hx hb dX7_thin_41 rfl (lv_at hl 1 rfl) ?_
      refine va_get (D := D) (ci := 7) (v := .ref oXp) (C := RX7) (T := TX7) (N := 8) hx hb hts tnX7 hown hK hP 0 rfl rfl 1 (by decide) (hts _ qw_297) (fun _ h9 => h9) rfl dX7_thin_42 ?_
      refine lv_iload_n hx hb dX7_thin_45 rfl (lv_at hl 2 rfl) ?_
      obtain ⟨g8, hm⟩ := gd_out hm
      refine va_lald hx hb hK hP 1 1 rfl rfl g8 dX7_thin_46 ?_
      refine W.lcmp hx hb dX7_thin_47 ?_
      refine lv_if_ne (tgt := 54) hx hb dX7_thin_48 (by decide) (fun c9 => ?_) (fun c9 => ?_)
      · have c9 := fun h9 => c9 ((lg_cmp_eq r6 (xpi v1.toNatClampNeg)).mpr h9)
        rw [if_neg c9] at hm
        refine lv_aload_n hx hb dX7_thin_54 rfl (lv_at hl 1 rfl) ?_
        refine va_get (D := D) (ci := 7) (v := .ref oXp) (C := RX7) (T := TX7) (N := 8) hx hb hts tnX7 hown hK hP 0 rfl rfl 1 (by decide) (hts _ qw_297) (fun _ h9 => h9) rfl dX7_thin_55 ?_
        refine lv_iload_n hx hb dX7_thin_58 rfl (lv_at hl 2 rfl) ?_
        refine lv_lload hx hb dX7_thin_59 (lv_at hl 0 rfl) ?_
        obtain ⟨g10, hm⟩ := gd_out hm
        refine va_last hx hb hK hP hD hS 1 1 rfl rfl g10 dX7_thin_61 (fun H locs hP hD hS => ?_)
        have hP : va_P D vwCl (wdX cJ cG cI oX oXp oXg oG0 oGa0 oG1 oGa1 oG2 oGa2 oQ oQw oI oR oRh oRm oB oBw oS oSs oF oFr oFs oFc oFw (vp_updL xpi v1.toNatClampNeg r6) gs0 ga0 gs1 ga1 gs2 ga2 qln qwy ijn rsz rhi rmi bsz bfi bla bar bwi srim sst fw fc fwh fbo fra fst fco fro) H := hP
        have hD : va_D A (wdX cJ cG cI oX oXp oXg oG0 oGa0 oG1 oGa1 oG2 oGa2 oQ oQw oI oR oRh oRm oB oBw oS oSs oF oFr oFs oFc oFw (vp_updL xpi v1.toNatClampNeg r6) gs0 ga0 gs1 ga1 gs2 ga2 qln qwy ijn rsz rhi rmi bsz bfi bla bar bwi srim sst fw fc fwh fbo fra fst fco fro) := hD
        refine lv_iinc (v := (v2 + (1 : Int32))) (lv' := [(2, .int (v2 + (1 : Int32))), (4, .long r6), (0, .ref oX), (1, .int v1), (3, .int v3)]) hx hb dX7_thin_62 hl (k := 3) rfl (by rfl) (by decide) rfl (fun ls hl => ?_)
        refine lv_iinc (v := (v3 + (1 : Int32))) (lv' := [(3, .int (v3 + (1 : Int32))), (2, .int (v2 + (1 : Int32))), (4, .long r6), (0, .ref oX), (1, .int v1)]) hx hb dX7_thin_65 hl (k := 4) rfl (by rfl) (by decide) rfl (fun ls hl => ?_)
        refine lv_goto (tgt := 13) hx hb dX7_thin_68 (by decide) ?_
        exact ih _ _ _ _ hm ls (lv_sub hl [3, 4, 1, 0] rfl) _ _ hP hD hS K0 K1
      · have c9 := (lg_cmp_eq r6 (xpi v1.toNatClampNeg)).mp c9
        rw [if_pos c9] at hm
        exact K0 _ _ (Option.some.inj hm).symm ls (lv_sub hl [3] rfl) _ _ hP hD hS
set_option maxHeartbeats 4000000 in
set_option maxRecDepth 100000 in
theorem bX7_thin {n : Nat} {a1 : Int32} {r : Int32} {y_xpi : (Nat → Int64)} (hx : p.tables.exec = Jvm.exec) (hb : c.code = cX7_thin) (hml : c.maxLocals = 6) (hown : s.vm.findClass RX7 = some m.cls) (hts : ∀ w ∈ tw, w.before args s = true) (hK : va_K D vwCl [(cI, .int), (cJ, .long), (cG, .object "WornShapes$Program")] s) (hA : ∀ q, s.heap.size ≤ q → A q) (hR : 3 ≤ R.frames ∧ 79 ≤ R.locals ∧ cells ≤ R.cells ∧ slots ≤ R.slots) (hm : mX7_thin n xpi fc rsz rhi rmi fra fst sst a1 = some (r, y_xpi)) (ls : Array Slot) (hl : lv_has ls 6 [(0, .ref oX), (1, .int a1)]) (hP : va_P D vwCl (wdX cJ cG cI oX oXp oXg oG0 oGa0 oG1 oGa1 oG2 oGa2 oQ oQw oI oR oRh oRm oB oBw oS oSs oF oFr oFs oFc oFw xpi gs0 ga0 gs1 ga1 gs2 ga2 qln qwy ijn rsz rhi rmi bsz bfi bla bar bwi srim sst fw fc fwh fbo fra fst fco fro) H) (hD : va_D A (wdX cJ cG cI oX oXp oXg oG0 oGa0 oG1 oGa1 oG2 oGa2 oQ oQw oI oR oRh oRm oB oBw oS oSs oF oFr oFs oFc oFw xpi gs0 ga0 gs1 ga1 gs2 ga2 qln qwy ijn rsz rhi rmi bsz bfi bla bar bwi srim sst fw fc fwh fbo fra fst fco fro)) (hS : va_S A s.heap H locs) (K : ∀ (pc : Nat) (ls : Array Slot) (H : Heap) (locs : List Loc), decode cX7_thin pc = .ok (.ireturn, 1) → va_P D vwCl (wdX cJ cG cI oX oXp oXg oG0 oGa0 oG1 oGa1 oG2 oGa2 oQ oQw oI oR oRh oRm oB oBw oS oSs oF oFr oFs oFc oFw y_xpi gs0 ga0 gs1 ga1 gs2 ga2 qln qwy ijn rsz rhi rmi bsz bfi bla bar bwi srim sst fw fc fwh fbo fra fst fco fro) H → va_D A (wdX cJ cG cI oX oXp oXg oG0 oGa0 oG1 oGa1 oG2 oGa2 oQ oQw oI oR oRh oRm oB oBw oS oSs oF oFr oFs oFc oFw y_xpi gs0 ga0 gs1 ga1 gs2 ga2 qln qwy ijn rsz rhi rmi bsz bfi bla bar bwi srim sst fw fc fwh fbo fra fst fco fro) → va_S A s.heap H locs → W p l e R s m args below meth c H locs cells slots Q (F0 m pc ls [.int r])) : W p l e R s m args below meth c H locs cells slots Q (F0 m 0 ls []) := by
  unfold mX7_thin at hm
  refine lv_iload_n hx hb dX7_thin_0 rfl (lv_at hl 1 rfl) ?_
  refine kX7_isPicture ⟨hx, hb, hml, hown, hts⟩ qw_301 hl.1 ⟨Nat.le_trans (by decide) hR.1, Nat.le_trans (by decide) hR.2.1, hR.2.2⟩ (Nat.le_of_ble_eq_true rfl) dX7_thin_1 ?_
  refine lv_if_ne (tgt := 9) hx hb dX7_thin_4 (by decide) (fun c2 => ?_) (fun c2 => ?_)
  · rw [if_neg c2] at hm
    refine lv_iconst (v := (0 : Int32)) hx hb dX7_thin_9 (by decide) ?_
    refine lv_istore_n (lv' := [(2, .int (0 : Int32)), (0, .ref oX), (1, .int a1)]) hx hb dX7_thin_10 rfl hl (by decide) rfl (fun ls hl => ?_)
    refine lv_iconst (v := (0 : Int32)) hx hb dX7_thin_11 (by decide) ?_
    refine lv_istore_n (lv' := [(3, .int (0 : Int32)), (2, .int (0 : Int32)), (0, .ref oX), (1, .int a1)]) hx hb dX7_thin_12 rfl hl (by decide) rfl (fun ls hl => ?_)
    obtain ⟨z16, h15, hm⟩ := jb_out hm
    refine wX7_thin_L13 hx hb hml hown hts hK hA hR n _ _ _ _ h15 ls (lv_sub hl [2, 3, 1, 0] rfl) _ _ hP hD hS ?_ ?_
    · intro y11 y12 e17 ls hl H locs hP hD hS
      subst e17
      simp only [el2] at hm
      simp only [pr2] at hm
      refine lv_goto (tgt := 71) hx hb dX7_thin_51 (by decide) ?_
      refine lv_iload_n hx hb dX7_thin_71 rfl (lv_at hl 0 rfl) ?_
      have hm := Option.some.inj hm
      have e9 : r = y11 := (congrArg (fun q => q.1) hm).symm
      rw [e9] at K
      have e9 : y_xpi = y12 := (congrArg (fun q => q.2) hm).symm
      rw [e9] at K
      exact K 72 ls _ _ dX7_thin_72 hP hD hS
    · intro y13 y14 e18 ls hl H locs hP hD hS
      subst e18
      simp only [el2] at hm
      simp only [pr2] at hm
      refine lv_iload_n hx hb dX7_thin_71 rfl (lv_at hl 0 rfl) ?_
      have hm := Option.some.inj hm
      have e9 : r = y13 := (congrArg (fun q => q.1) hm).symm
      rw [e9] at K
      have e9 : y_xpi = y14 := (congrArg (fun q => q.2) hm).symm
      rw [e9] at K
      exact K 72 ls _ _ dX7_thin_72 hP hD hS
  · rw [if_pos c2] at hm
    refine lv_iconst (v := (-1 : Int32)) hx hb dX7_thin_7 (by decide) ?_
    have hm := Option.some.inj hm
    have e9 : r = (-1 : Int32) := (congrArg (fun q => q.1) hm).symm
    rw [e9] at K
    have e9 : y_xpi = xpi := (congrArg (fun q => q.2) hm).symm
    rw [e9] at K
    exact K 8 ls _ _ dX7_thin_8 hP hD hS
set_option maxHeartbeats 4000000 in
set_option maxRecDepth 100000 in
theorem tX7_thin (l : Launch) {D : va_G} (sz : Nat) {n : Nat} {a1 : Int32} {r : Int32} {y_xpi : (Nat → Int64)} (hm : mX7_thin n xpi fc rsz rhi rmi fra fst sst a1 = some (r, y_xpi)) : Met l yX7_thin (.code yX7_thin cX7_thin 6 (some .int) :: tw) ({ frames := 3, cells := 0, slots := 0, locals := 79 } : Room) (wrP D [.ref oX, .int a1] (wdX cJ cG cI oX oXp oXg oG0 oGa0 oG1 oGa1 oG2 oGa2 oQ oQw oI oR oRh oRm oB oBw oS oSs oF oFr oFs oFc oFw xpi gs0 ga0 gs1 ga1 gs2 ga2 qln qwy ijn rsz rhi rmi bsz bfi bla bar bwi srim sst fw fc fwh fbo fra fst fco fro) [(cI, .int), (cJ, .long), (cG, .object "WornShapes$Program")] sz) (va_Qi (fun q (_ : Unit) => q = r) (fun (_ : Unit) (t : State) => va_P D vwCl (wdX cJ cG cI oX oXp oXg oG0 oGa0 oG1 oGa1 oG2 oGa2 oQ oQw oI oR oRh oRm oB oBw oS oSs oF oFr oFs oFc oFw y_xpi gs0 ga0 gs1 ga1 gs2 ga2 qln qwy ijn rsz rhi rmi bsz bfi bla bar bwi srim sst fw fc fwh fbo fra fst fco fro) t.heap ∧ va_K D vwCl [(cI, .int), (cJ, .long), (cG, .object "WornShapes$Program")] t ∧ va_D (va_A (wdX cJ cG cI oX oXp oXg oG0 oGa0 oG1 oGa1 oG2 oGa2 oQ oQw oI oR oRh oRm oB oBw oS oSs oF oFr oFs oFc oFw xpi gs0 ga0 gs1 ga1 gs2 ga2 qln qwy ijn rsz rhi rmi bsz bfi bla bar bwi srim sst fw fc fwh fbo fra fst fco fro) sz) (wdX cJ cG cI oX oXp oXg oG0 oGa0 oG1 oGa1 oG2 oGa2 oQ oQw oI oR oRh oRm oB oBw oS oSs oF oFr oFs oFc oFw y_xpi gs0 ga0 gs1 ga1 gs2 ga2 qln qwy ijn rsz rhi rmi bsz bfi bla bar bwi srim sst fw fc fwh fbo fra fst fco fro)) (va_A (wdX cJ cG cI oX oXp oXg oG0 oGa0 oG1 oGa1 oG2 oGa2 oQ oQw oI oR oRh oRm oB oBw oS oSs oF oFr oFs oFc oFw xpi gs0 ga0 gs1 ga1 gs2 ga2 qln qwy ijn rsz rhi rmi bsz bfi bla bar bwi srim sst fw fc fwh fbo fra fst fco fro) sz)) 0 0 (va_A (wdX cJ cG cI oX oXp oXg oG0 oGa0 oG1 oGa1 oG2 oGa2 oQ oQw oI oR oRh oRm oB oBw oS oSs oF oFr oFs oFc oFw xpi gs0 ga0 gs1 ga1 gs2 ga2 qln qwy ijn rsz rhi rmi bsz bfi bla bar bwi srim sst fw fc fwh fbo fra fst fco fro) sz) := by
  refine Met.ofW (cc := cX7_thin) (maxL := 6) (ret := (some .int)) (by decide) rfl ?_
  intro p e s m args below meth c s₁ B hml hv
  obtain ⟨rfl, hsz, hP, hK, hD0⟩ := hv
  have hx := B.exec
  have hb := B.bytes
  have hr := B.returns
  have hts : ∀ w ∈ tw, w.before _ s = true := fun w h => atoms_spec (ws := .code yX7_thin cX7_thin 6 (some .int) :: tw) B.pre w (List.mem_cons_of_mem _ h)
  have hown : s.vm.findClass RX7 = some m.cls := findClass_of_methodNamed B.named
  have hlocks := B.notSynchronized
  subst hsz
  have hD := hD0.self (sz := s.heap.size)
  have hl := lv_entry ([.ref oX, .int a1]) (n := 6) (Nat.le_of_ble_eq_true rfl)
  rw [lg_entry_eq]
  generalize (lg_sl ([.ref oX, .int a1]) ++ List.replicate (6 - (lg_sl ([.ref oX, .int a1])).length) Slot.unset).toArray = ls at hl ⊢
  refine bX7_thin hx hb hml hown hts hK (fun q h => Or.inr h) ⟨Nat.le_of_ble_eq_true rfl, Nat.le_of_ble_eq_true rfl, Nat.zero_le _, Nat.zero_le _⟩ hm ls hl hP hD va_S.rf (fun pc ls H locs hd hP hD hS => ?_)
  exact W.iret hx hb hr (fun t ht hW => ⟨⟨r, (), rfl, rfl, by rw [ht]; exact hP, va_K.moved hW.alike hK, hD⟩, hS.F ht⟩) hS.2.2 hd
set_option maxHeartbeats 4000000 in
set_option maxRecDepth 100000 in
theorem kX7_thin {own : String} {cc : ByteArray} {nL idx pc : Nat} {ls : Array Slot} {rest : List Value} {ws wr : va_W} {n : Nat} {a1 : Int32} {r : Int32} {y_xpi : (Nat → Int64)} (fx : CallFix p m c cc nL s args tw own) (hq : Cond.methodLink own idx yX7_thin ∈ tw) (isC isR : List Nat) (hC : isC.map (fun i => ws[i]?) = ((wdX cJ cG cI oX oXp oXg oG0 oGa0 oG1 oGa1 oG2 oGa2 oQ oQw oI oR oRh oRm oB oBw oS oSs oF oFr oFs oFc oFw xpi gs0 ga0 gs1 ga1 gs2 ga2 qln qwy ijn rsz rhi rmi bsz bfi bla bar bwi srim sst fw fc fwh fbo fra fst fco fro) : va_W).map some) (hRr : isR.map (fun i => ws[i]?) = wr.map some) (hnC : va_nd isC = true) (hn : va_nd isR = true) (hdis : ∀ i ∈ isR, i ∉ isC) (hK : va_K D vwCl [(cI, .int), (cJ, .long), (cG, .object "WornShapes$Program")] s) (hm : mX7_thin n xpi fc rsz rhi rmi fra fst sst a1 = some (r, y_xpi)) (hsz : ls.size = nL) (hR : 4 ≤ R.frames ∧ 104 ≤ R.locals ∧ cells ≤ R.cells ∧ slots ≤ R.slots) (hst : (rest.map fun v => v.category).sum ≤ 8) (hd : decode cc pc = .ok (.invokevirtual idx, 3)) (hP : va_P D vwCl ws H) (hD : va_D A ws) (hS : va_S A s.heap H locs) (hA : ∀ q, s.heap.size ≤ q → A q) (kk : ∀ (H : Heap) (locs : List Loc), va_P D vwCl (wr ++ (wdX cJ cG cI oX oXp oXg oG0 oGa0 oG1 oGa1 oG2 oGa2 oQ oQw oI oR oRh oRm oB oBw oS oSs oF oFr oFs oFc oFw y_xpi gs0 ga0 gs1 ga1 gs2 ga2 qln qwy ijn rsz rhi rmi bsz bfi bla bar bwi srim sst fw fc fwh fbo fra fst fco fro)) H → va_D A (wr ++ (wdX cJ cG cI oX oXp oXg oG0 oGa0 oG1 oGa1 oG2 oGa2 oQ oQw oI oR oRh oRm oB oBw oS oSs oF oFr oFs oFc oFw y_xpi gs0 ga0 gs1 ga1 gs2 ga2 qln qwy ijn rsz rhi rmi bsz bfi bla bar bwi srim sst fw fc fwh fbo fra fst fco fro)) → va_S A s.heap H locs → W p l e R s m args below meth c H locs cells slots Q (F0 m (pc + 3) ls (.int r :: rest))) : W p l e R s m args below meth c H locs cells slots Q (F0 m pc ls (.int a1 :: .ref oX :: rest)) := by
  have hPc := va_P.subM hP isC hC
  have hDc := hD.sub isC hnC hC
  have hFc := va_free (wc := (wdX cJ cG cI oX oXp oXg oG0 oGa0 oG1 oGa1 oG2 oGa2 oQ oQw oI oR oRh oRm oB oBw oS oSs oF oFr oFs oFc oFw xpi gs0 ga0 gs1 ga1 gs2 ga2 qln qwy ijn rsz rhi rmi bsz bfi bla bar bwi srim sst fw fc fwh fbo fra fst fco fro)) hD hS hA isC hC
  refine va_calli (va_runV (As := [.int a1]) (rest := rest) fx (tX7_thin l H.size hm) (cwV 1 fx.2.2.2.2 (tw_V hq qw_442 qw_443 qw_288 qw_444) rfl rfl rfl (by decide +kernel) ⟨hR.1, hR.2.1⟩) ⟨wrP_bl, va_recv hK hPc (ci := 7) (q0 := 0) rfl rfl, wrP_ok hPc hK hDc⟩ rfl rfl hsz rfl (lv_room hst) hd ⟨hR.2.2.1, hR.2.2.2⟩) hS (fun q _ h => hFc q h) hFc (fun r9 u t H1 locs ht hvm hw hB hz1 hk1 hS => ?_)
  obtain ⟨hP1, hK1, hD1⟩ := hB
  rw [ht] at hP1
  rw [hw]
  obtain ⟨hP2, hD2⟩ := va_join (wr := wr) (w1 := (wdX cJ cG cI oX oXp oXg oG0 oGa0 oG1 oGa1 oG2 oGa2 oQ oQw oI oR oRh oRm oB oBw oS oSs oF oFr oFs oFc oFw y_xpi gs0 ga0 gs1 ga1 gs2 ga2 qln qwy ijn rsz rhi rmi bsz bfi bla bar bwi srim sst fw fc fwh fbo fra fst fco fro)) hP hD isC isR hC hRr hn hdis hk1 hFc hP1 hD1
  exact kk H1 locs hP2 hD2 hS
-- X7_greatest
def mX7_greatest (n : Nat) (bfi : Int32) (bla : Int32) (bar : Int32) (fc : Int32) (fco : Nat → Int32) (fro : Nat → Int32) (fw : Int32) (xpi : Nat → Int64) (a1 : Int32) (a2 : Int32) : Option (Int32 × (Int32) × (Int32) × (Int32)) :=
  (if (mX7_isPicture a1) = 0 then (some ((-1 : Int32), bfi, bla, bar)) else (if a2 < 0 then (some ((-2 : Int32), bfi, bla, bar)) else (if a2 ≤ (2 : Int32) then gd (ib a1 5) (jb4 (mX0_findGreatest n fc fco fro fw bfi bla (xpi a1.toNatClampNeg)) (fun (r8 : Int32) (y9 : Int32) (y10 : Int32) (y11 : Int32) => (if r8 = 0 then (some ((-9 : Int32), y9, y10, y11)) else (if a2 = 0 then (some (y9, y9, y10, y11)) else (if a2 = (1 : Int32) then (some (y10, y9, y10, y11)) else (some (y11, y9, y10, y11))))))) else (some ((-2 : Int32), bfi, bla, bar)))))
theorem dX7_greatest_0 : decode cX7_greatest 0 = .ok (.iload_n 1, 1) := by decide +kernel
theorem dX7_greatest_1 : decode cX7_greatest 1 = .ok (.invokestatic 81, 3) := by decide +kernel
theorem dX7_greatest_4 : decode cX7_greatest 4 = .ok (.ifCond .ne 5, 3) := by decide +kernel
theorem dX7_greatest_7 : decode cX7_greatest 7 = .ok (.iconst (-1), 1) := by decide +kernel
theorem dX7_greatest_8 : decode cX7_greatest 8 = .ok (.ireturn, 1) := by decide +kernel
theorem dX7_greatest_9 : decode cX7_greatest 9 = .ok (.iload_n 2, 1) := by decide +kernel
theorem dX7_greatest_10 : decode cX7_greatest 10 = .ok (.ifCond .lt 8, 3) := by decide +kernel
theorem dX7_greatest_13 : decode cX7_greatest 13 = .ok (.iload_n 2, 1) := by decide +kernel
theorem dX7_greatest_14 : decode cX7_greatest 14 = .ok (.iconst 2, 1) := by decide +kernel
theorem dX7_greatest_15 : decode cX7_greatest 15 = .ok (.if_icmp .le 6, 3) := by decide +kernel
theorem dX7_greatest_18 : decode cX7_greatest 18 = .ok (.bipush (-2), 2) := by decide +kernel
theorem dX7_greatest_20 : decode cX7_greatest 20 = .ok (.ireturn, 1) := by decide +kernel
theorem dX7_greatest_21 : decode cX7_greatest 21 = .ok (.aload_n 0, 1) := by decide +kernel
theorem dX7_greatest_22 : decode cX7_greatest 22 = .ok (.getfield 66, 3) := by decide +kernel
theorem dX7_greatest_25 : decode cX7_greatest 25 = .ok (.aload_n 0, 1) := by decide +kernel
theorem dX7_greatest_26 : decode cX7_greatest 26 = .ok (.getfield 18, 3) := by decide +kernel
theorem dX7_greatest_29 : decode cX7_greatest 29 = .ok (.iload_n 1, 1) := by decide +kernel
theorem dX7_greatest_30 : decode cX7_greatest 30 = .ok (.laload, 1) := by decide +kernel
theorem dX7_greatest_31 : decode cX7_greatest 31 = .ok (.invokevirtual 199, 3) := by decide +kernel
theorem dX7_greatest_34 : decode cX7_greatest 34 = .ok (.ifCond .ne 6, 3) := by decide +kernel
theorem dX7_greatest_37 : decode cX7_greatest 37 = .ok (.bipush (-9), 2) := by decide +kernel
theorem dX7_greatest_39 : decode cX7_greatest 39 = .ok (.ireturn, 1) := by decide +kernel
theorem dX7_greatest_40 : decode cX7_greatest 40 = .ok (.iload_n 2, 1) := by decide +kernel
theorem dX7_greatest_41 : decode cX7_greatest 41 = .ok (.ifCond .ne 11, 3) := by decide +kernel
theorem dX7_greatest_44 : decode cX7_greatest 44 = .ok (.aload_n 0, 1) := by decide +kernel
theorem dX7_greatest_45 : decode cX7_greatest 45 = .ok (.getfield 66, 3) := by decide +kernel
theorem dX7_greatest_48 : decode cX7_greatest 48 = .ok (.getfield 203, 3) := by decide +kernel
theorem dX7_greatest_51 : decode cX7_greatest 51 = .ok (.ireturn, 1) := by decide +kernel
theorem dX7_greatest_52 : decode cX7_greatest 52 = .ok (.iload_n 2, 1) := by decide +kernel
theorem dX7_greatest_53 : decode cX7_greatest 53 = .ok (.iconst 1, 1) := by decide +kernel
theorem dX7_greatest_54 : decode cX7_greatest 54 = .ok (.if_icmp .ne 13, 3) := by decide +kernel
theorem dX7_greatest_57 : decode cX7_greatest 57 = .ok (.aload_n 0, 1) := by decide +kernel
theorem dX7_greatest_58 : decode cX7_greatest 58 = .ok (.getfield 66, 3) := by decide +kernel
theorem dX7_greatest_61 : decode cX7_greatest 61 = .ok (.getfield 206, 3) := by decide +kernel
theorem dX7_greatest_64 : decode cX7_greatest 64 = .ok (.goto 10, 3) := by decide +kernel
theorem dX7_greatest_67 : decode cX7_greatest 67 = .ok (.aload_n 0, 1) := by decide +kernel
theorem dX7_greatest_68 : decode cX7_greatest 68 = .ok (.getfield 66, 3) := by decide +kernel
theorem dX7_greatest_71 : decode cX7_greatest 71 = .ok (.getfield 209, 3) := by decide +kernel
theorem dX7_greatest_74 : decode cX7_greatest 74 = .ok (.ireturn, 1) := by decide +kernel
set_option maxHeartbeats 4000000 in
set_option maxRecDepth 100000 in
theorem bX7_greatest {n : Nat} {a1 : Int32} {a2 : Int32} {r : Int32} {y_bfi : (Int32)} {y_bla : (Int32)} {y_bar : (Int32)} (hx : p.tables.exec = Jvm.exec) (hb : c.code = cX7_greatest) (hml : c.maxLocals = 3) (hown : s.vm.findClass RX7 = some m.cls) (hts : ∀ w ∈ tw, w.before args s = true) (hK : va_K D vwCl [(cI, .int), (cJ, .long), (cG, .object "WornShapes$Program")] s) (hA : ∀ q, s.heap.size ≤ q → A q) (hR : 3 ≤ R.frames ∧ 80 ≤ R.locals ∧ cells ≤ R.cells ∧ slots ≤ R.slots) (hm : mX7_greatest n bfi bla bar fc fco fro fw xpi a1 a2 = some (r, y_bfi, y_bla, y_bar)) (ls : Array Slot) (hl : lv_has ls 3 [(0, .ref oX), (1, .int a1), (2, .int a2)]) (hP : va_P D vwCl (wdX cJ cG cI oX oXp oXg oG0 oGa0 oG1 oGa1 oG2 oGa2 oQ oQw oI oR oRh oRm oB oBw oS oSs oF oFr oFs oFc oFw xpi gs0 ga0 gs1 ga1 gs2 ga2 qln qwy ijn rsz rhi rmi bsz bfi bla bar bwi srim sst fw fc fwh fbo fra fst fco fro) H) (hD : va_D A (wdX cJ cG cI oX oXp oXg oG0 oGa0 oG1 oGa1 oG2 oGa2 oQ oQw oI oR oRh oRm oB oBw oS oSs oF oFr oFs oFc oFw xpi gs0 ga0 gs1 ga1 gs2 ga2 qln qwy ijn rsz rhi rmi bsz bfi bla bar bwi srim sst fw fc fwh fbo fra fst fco fro)) (hS : va_S A s.heap H locs) (K : ∀ (pc : Nat) (ls : Array Slot) (H : Heap) (locs : List Loc), decode cX7_greatest pc = .ok (.ireturn, 1) → va_P D vwCl (wdX cJ cG cI oX oXp oXg oG0 oGa0 oG1 oGa1 oG2 oGa2 oQ oQw oI oR oRh oRm oB oBw oS oSs oF oFr oFs oFc oFw xpi gs0 ga0 gs1 ga1 gs2 ga2 qln qwy ijn rsz rhi rmi bsz y_bfi y_bla y_bar bwi srim sst fw fc fwh fbo fra fst fco fro) H → va_D A (wdX cJ cG cI oX oXp oXg oG0 oGa0 oG1 oGa1 oG2 oGa2 oQ oQw oI oR oRh oRm oB oBw oS oSs oF oFr oFs oFc oFw xpi gs0 ga0 gs1 ga1 gs2 ga2 qln qwy ijn rsz rhi rmi bsz y_bfi y_bla y_bar bwi srim sst fw fc fwh fbo fra fst fco fro) → va_S A s.heap H locs → W p l e R s m args below meth c H locs cells slots Q (F0 m pc ls [.int r])) : W p l e R s m args below meth c H locs cells slots Q (F0 m 0 ls []) := by
  unfold mX7_greatest at hm
  refine lv_iload_n hx hb dX7_greatest_0 rfl (lv_at hl 1 rfl) ?_
  refine kX7_isPicture ⟨hx, hb, hml, hown, hts⟩ qw_301 hl.1 ⟨Nat.le_trans (by decide) hR.1, Nat.le_trans (by decide) hR.2.1, hR.2.2⟩ (Nat.le_of_ble_eq_true rfl) dX7_greatest_1 ?_
  refine lv_if_ne (tgt := 9) hx hb dX7_greatest_4 (by decide) (fun c2 => ?_) (fun c2 => ?_)
  · rw [if_neg c2] at hm
    refine lv_iload_n hx hb dX7_greatest_9 rfl (lv_at hl 2 rfl) ?_
    refine lv_if_lt (tgt := 18) hx hb dX7_greatest_10 (by decide) (fun c3 => ?_) (fun c3 => ?_)
    · rw [if_pos c3] at hm
      refine lv_bipush (v := (-2 : Int32)) hx hb dX7_greatest_18 (by decide) ?_
      have hm := Option.some.inj hm
      have e9 : r = (-2 : Int32) := (congrArg (fun q => q.1) hm).symm
      rw [e9] at K
      have e9 : y_bfi = bfi := (congrArg (fun q => q.2.1) hm).symm
      rw [e9] at K
      have e9 : y_bla = bla := (congrArg (fun q => q.2.2.1) hm).symm
      rw [e9] at K
      have e9 : y_bar = bar := (congrArg (fun q => q.2.2.2) hm).symm
      rw [e9] at K
      exact K 20 ls _ _ dX7_greatest_20 hP hD hS
    · rw [if_neg c3] at hm
      refine lv_iload_n hx hb dX7_greatest_13 rfl (lv_at hl 2 rfl) ?_
      refine lv_iconst (v := (2 : Int32)) hx hb dX7_greatest_14 (by decide) ?_
      refine lv_icmp_le (tgt := 21) hx hb dX7_greatest_15 (by decide) (fun c4 => ?_) (fun c4 => ?_)
      · rw [if_pos c4] at hm
        refine lv_aload_n hx hb dX7_greatest_21 rfl (lv_at hl 0 rfl) ?_
        refine va_get (D := D) (ci := 7) (v := .ref oB) (C := RX7) (T := TX7) (N := 8) hx hb hts tnX7 hown hK hP 0 rfl rfl 7 (by decide) (hts _ qw_355) (fun _ h9 => h9) rfl dX7_greatest_22 ?_
        refine lv_aload_n hx hb dX7_greatest_25 rfl (lv_at hl 0 rfl) ?_
        refine va_get (D := D) (ci := 7) (v := .ref oXp) (C := RX7) (T := TX7) (N := 8) hx hb hts tnX7 hown hK hP 0 rfl rfl 1 (by decide) (hts _ qw_297) (fun _ h9 => h9) rfl dX7_greatest_26 ?_
        refine lv_iload_n hx hb dX7_greatest_29 rfl (lv_at hl 1 rfl) ?_
        obtain ⟨g5, hm⟩ := gd_out hm
        refine va_lald hx hb hK hP 1 1 rfl rfl g5 dX7_greatest_30 ?_
        obtain ⟨r8, y9, y10, y11, h7, hm⟩ := jb_out4 hm
        refine kX0_findGreatest (ws := (wdX cJ cG cI oX oXp oXg oG0 oGa0 oG1 oGa1 oG2 oGa2 oQ oQw oI oR oRh oRm oB oBw oS oSs oF oFr oFs oFc oFw xpi gs0 ga0 gs1 ga1 gs2 ga2 qln qwy ijn rsz rhi rmi bsz bfi bla bar bwi srim sst fw fc fwh fbo fra fst fco fro)) (wr := [(oX, .inr (7, [.ref oF, .ref oXp, .ref oS, .ref oXg, .ref oQ, .ref oI, .ref oR, .ref oB])), (oXp, .inl (cJ, 5, .inr (.inl xpi))), (oXg, .inl (cG, 3, .inr (.inr (.inr (.inr (va_p3 oG0 oG1 oG2)))))), (oG0, .inr (4, [.ref oS, .ref oGa0, .int gs0])), (oGa0, .inl (cI, 8, .inl ga0)), (oG1, .inr (4, [.ref oS, .ref oGa1, .int gs1])), (oGa1, .inl (cI, 8, .inl ga1)), (oG2, .inr (4, [.ref oS, .ref oGa2, .int gs2])), (oGa2, .inl (cI, 8, .inl ga2)), (oQ, .inr (5, [.ref oS, .ref oQw, .int qln])), (oQw, .inl (cI, 4, .inl qwy)), (oI, .inr (3, [.ref oF, .int ijn])), (oR, .inr (2, [.ref oF, .ref oS, .ref oRh, .ref oRm, .int rsz])), (oRh, .inl (cI, 8, .inl rhi)), (oRm, .inl (cI, 8, .inl rmi)), (oS, .inr (6, [.ref oF, .ref oSs, .int srim])), (oSs, .inl (cI, 4, .inl sst))]) ⟨hx, hb, hml, hown, hts⟩ qw_445 [15, 16, 19, 20, 21, 22, 23] [0, 1, 2, 3, 4, 5, 6, 7, 8, 9, 10, 11, 12, 13, 14, 17, 18] rfl rfl (by decide) (by decide) (by decide) (hK.sub (tys' := [(cI, .int), (cJ, .long)]) [0, 1] rfl) h7 hl.1 ⟨Nat.le_trans (by decide) hR.1, Nat.le_trans (by decide) hR.2.1, hR.2.2⟩ (Nat.le_of_ble_eq_true rfl) dX7_greatest_31 hP hD hS hA (fun H locs hP hD hS => ?_)
        have hP : va_P D vwCl (wdX cJ cG cI oX oXp oXg oG0 oGa0 oG1 oGa1 oG2 oGa2 oQ oQw oI oR oRh oRm oB oBw oS oSs oF oFr oFs oFc oFw xpi gs0 ga0 gs1 ga1 gs2 ga2 qln qwy ijn rsz rhi rmi bsz y9 y10 y11 bwi srim sst fw fc fwh fbo fra fst fco fro) H := hP.sub [0, 1, 2, 3, 4, 5, 6, 7, 8, 9, 10, 11, 12, 13, 14, 17, 18, 15, 16, 19, 20, 21, 22, 23] rfl
        have hD : va_D A (wdX cJ cG cI oX oXp oXg oG0 oGa0 oG1 oGa1 oG2 oGa2 oQ oQw oI oR oRh oRm oB oBw oS oSs oF oFr oFs oFc oFw xpi gs0 ga0 gs1 ga1 gs2 ga2 qln qwy ijn rsz rhi rmi bsz y9 y10 y11 bwi srim sst fw fc fwh fbo fra fst fco fro) := hD.sub [0, 1, 2, 3, 4, 5, 6, 7, 8, 9, 10, 11, 12, 13, 14, 17, 18, 15, 16, 19, 20, 21, 22, 23] (by decide) rfl
        refine lv_if_ne (tgt := 40) hx hb dX7_greatest_34 (by decide) (fun c12 => ?_) (fun c12 => ?_)
        · rw [if_neg c12] at hm
          refine lv_iload_n hx hb dX7_greatest_40 rfl (lv_at hl 2 rfl) ?_
          refine lv_if_ne (tgt := 52) hx hb dX7_greatest_41 (by decide) (fun c13 => ?_) (fun c13 => ?_)
          · rw [if_neg c13] at hm
            refine lv_iload_n hx hb dX7_greatest_52 rfl (lv_at hl 2 rfl) ?_
            refine lv_iconst (v := (1 : Int32)) hx hb dX7_greatest_53 (by decide) ?_
            refine lv_icmp_ne (tgt := 67) hx hb dX7_greatest_54 (by decide) (fun c14 => ?_) (fun c14 => ?_)
            · rw [if_neg c14] at hm
              refine lv_aload_n hx hb dX7_greatest_67 rfl (lv_at hl 0 rfl) ?_
              refine va_get (D := D) (ci := 7) (v := .ref oB) (C := RX7) (T := TX7) (N := 8) hx hb hts tnX7 hown hK hP 0 rfl rfl 7 (by decide) (hts _ qw_355) (fun _ h9 => h9) rfl dX7_greatest_68 ?_
              refine va_get (D := D) (ci := 0) (v := .int y11) (C := RX0) (T := TX0) (N := 6) hx hb hts tnX0 hown hK hP 15 rfl rfl 5 (by decide) (hts _ qw_446) (fun _ h9 => h9) rfl dX7_greatest_71 ?_
              have hm := Option.some.inj hm
              have e9 : r = y11 := (congrArg (fun q => q.1) hm).symm
              rw [e9] at K
              have e9 : y_bfi = y9 := (congrArg (fun q => q.2.1) hm).symm
              rw [e9] at K
              have e9 : y_bla = y10 := (congrArg (fun q => q.2.2.1) hm).symm
              rw [e9] at K
              have e9 : y_bar = y11 := (congrArg (fun q => q.2.2.2) hm).symm
              rw [e9] at K
              exact K 74 ls _ _ dX7_greatest_74 hP hD hS
            · rw [if_pos c14] at hm
              refine lv_aload_n hx hb dX7_greatest_57 rfl (lv_at hl 0 rfl) ?_
              refine va_get (D := D) (ci := 7) (v := .ref oB) (C := RX7) (T := TX7) (N := 8) hx hb hts tnX7 hown hK hP 0 rfl rfl 7 (by decide) (hts _ qw_355) (fun _ h9 => h9) rfl dX7_greatest_58 ?_
              refine va_get (D := D) (ci := 0) (v := .int y10) (C := RX0) (T := TX0) (N := 6) hx hb hts tnX0 hown hK hP 15 rfl rfl 4 (by decide) (hts _ qw_447) (fun _ h9 => h9) rfl dX7_greatest_61 ?_
              refine lv_goto (tgt := 74) hx hb dX7_greatest_64 (by decide) ?_
              have hm := Option.some.inj hm
              have e9 : r = y10 := (congrArg (fun q => q.1) hm).symm
              rw [e9] at K
              have e9 : y_bfi = y9 := (congrArg (fun q => q.2.1) hm).symm
              rw [e9] at K
              have e9 : y_bla = y10 := (congrArg (fun q => q.2.2.1) hm).symm
              rw [e9] at K
              have e9 : y_bar = y11 := (congrArg (fun q => q.2.2.2) hm).symm
              rw [e9] at K
              exact K 74 ls _ _ dX7_greatest_74 hP hD hS
          · rw [if_pos c13] at hm
            refine lv_aload_n hx hb dX7_greatest_44 rfl (lv_at hl 0 rfl) ?_
            refine va_get (D := D) (ci := 7) (v := .ref oB) (C := RX7) (T := TX7) (N := 8) hx hb hts tnX7 hown hK hP 0 rfl rfl 7 (by decide) (hts _ qw_355) (fun _ h9 => h9) rfl dX7_greatest_45 ?_
            refine va_get (D := D) (ci := 0) (v := .int y9) (C := RX0) (T := TX0) (N := 6) hx hb hts tnX0 hown hK hP 15 rfl rfl 3 (by decide) (hts _ qw_448) (fun _ h9 => h9) rfl dX7_greatest_48 ?_
            have hm := Option.some.inj hm
            have e9 : r = y9 := (congrArg (fun q => q.1) hm).symm
            rw [e9] at K
            have e9 : y_bfi = y9 := (congrArg (fun q => q.2.1) hm).symm
            rw [e9] at K
            have e9 : y_bla = y10 := (congrArg (fun q => q.2.2.1) hm).symm
            rw [e9] at K
            have e9 : y_bar = y11 := (congrArg (fun q => q.2.2.2) hm).symm
            rw [e9] at K
            exact K 51 ls _ _ dX7_greatest_51 hP hD hS
        · rw [if_pos c12] at hm
          refine lv_bipush (v := (-9 : Int32)) hx hb dX7_greatest_37 (by decide) ?_
          have hm := Option.some.inj hm
          have e9 : r = (-9 : Int32) := (congrArg (fun q => q.1) hm).symm
          rw [e9] at K
          have e9 : y_bfi = y9 := (congrArg (fun q => q.2.1) hm).symm
          rw [e9] at K
          have e9 : y_bla = y10 := (congrArg (fun q => q.2.2.1) hm).symm
          rw [e9] at K
          have e9 : y_bar = y11 := (congrArg (fun q => q.2.2.2) hm).symm
          rw [e9] at K
          exact K 39 ls _ _ dX7_greatest_39 hP hD hS
      · rw [if_neg c4] at hm
        refine lv_bipush (v := (-2 : Int32)) hx hb dX7_greatest_18 (by decide) ?_
        have hm := Option.some.inj hm
        have e9 : r = (-2 : Int32) := (congrArg (fun q => q.1) hm).symm
        rw [e9] at K
        have e9 : y_bfi = bfi := (congrArg (fun q => q.2.1) hm).symm
        rw [e9] at K
        have e9 : y_bla = bla := (congrArg (fun q => q.2.2.1) hm).symm
        rw [e9] at K
        have e9 : y_bar = bar := (congrArg (fun q => q.2.2.2) hm).symm
        rw [e9] at K
        exact K 20 ls _ _ dX7_greatest_20 hP hD hS
  · rw [if_pos c2] at hm
    refine lv_iconst (v := (-1 : Int32)) hx hb dX7_greatest_7 (by decide) ?_
    have hm := Option.some.inj hm
    have e9 : r = (-1 : Int32) := (congrArg (fun q => q.1) hm).symm
    rw [e9] at K
    have e9 : y_bfi = bfi := (congrArg (fun q => q.2.1) hm).symm
    rw [e9] at K
    have e9 : y_bla = bla := (congrArg (fun q => q.2.2.1) hm).symm
    rw [e9] at K
    have e9 : y_bar = bar := (congrArg (fun q => q.2.2.2) hm).symm
    rw [e9] at K
    exact K 8 ls _ _ dX7_greatest_8 hP hD hS
set_option maxHeartbeats 4000000 in
set_option maxRecDepth 100000 in
theorem tX7_greatest (l : Launch) {D : va_G} (sz : Nat) {n : Nat} {a1 : Int32} {a2 : Int32} {r : Int32} {y_bfi : (Int32)} {y_bla : (Int32)} {y_bar : (Int32)} (hm : mX7_greatest n bfi bla bar fc fco fro fw xpi a1 a2 = some (r, y_bfi, y_bla, y_bar)) : Met l yX7_greatest (.code yX7_greatest cX7_greatest 3 (some .int) :: tw) ({ frames := 3, cells := 0, slots := 0, locals := 80 } : Room) (wrP D [.ref oX, .int a1, .int a2] (wdX cJ cG cI oX oXp oXg oG0 oGa0 oG1 oGa1 oG2 oGa2 oQ oQw oI oR oRh oRm oB oBw oS oSs oF oFr oFs oFc oFw xpi gs0 ga0 gs1 ga1 gs2 ga2 qln qwy ijn rsz rhi rmi bsz bfi bla bar bwi srim sst fw fc fwh fbo fra fst fco fro) [(cI, .int), (cJ, .long), (cG, .object "WornShapes$Program")] sz) (va_Qi (fun q (_ : Unit) => q = r) (fun (_ : Unit) (t : State) => va_P D vwCl (wdX cJ cG cI oX oXp oXg oG0 oGa0 oG1 oGa1 oG2 oGa2 oQ oQw oI oR oRh oRm oB oBw oS oSs oF oFr oFs oFc oFw xpi gs0 ga0 gs1 ga1 gs2 ga2 qln qwy ijn rsz rhi rmi bsz y_bfi y_bla y_bar bwi srim sst fw fc fwh fbo fra fst fco fro) t.heap ∧ va_K D vwCl [(cI, .int), (cJ, .long), (cG, .object "WornShapes$Program")] t ∧ va_D (va_A (wdX cJ cG cI oX oXp oXg oG0 oGa0 oG1 oGa1 oG2 oGa2 oQ oQw oI oR oRh oRm oB oBw oS oSs oF oFr oFs oFc oFw xpi gs0 ga0 gs1 ga1 gs2 ga2 qln qwy ijn rsz rhi rmi bsz bfi bla bar bwi srim sst fw fc fwh fbo fra fst fco fro) sz) (wdX cJ cG cI oX oXp oXg oG0 oGa0 oG1 oGa1 oG2 oGa2 oQ oQw oI oR oRh oRm oB oBw oS oSs oF oFr oFs oFc oFw xpi gs0 ga0 gs1 ga1 gs2 ga2 qln qwy ijn rsz rhi rmi bsz y_bfi y_bla y_bar bwi srim sst fw fc fwh fbo fra fst fco fro)) (va_A (wdX cJ cG cI oX oXp oXg oG0 oGa0 oG1 oGa1 oG2 oGa2 oQ oQw oI oR oRh oRm oB oBw oS oSs oF oFr oFs oFc oFw xpi gs0 ga0 gs1 ga1 gs2 ga2 qln qwy ijn rsz rhi rmi bsz bfi bla bar bwi srim sst fw fc fwh fbo fra fst fco fro) sz)) 0 0 (va_A (wdX cJ cG cI oX oXp oXg oG0 oGa0 oG1 oGa1 oG2 oGa2 oQ oQw oI oR oRh oRm oB oBw oS oSs oF oFr oFs oFc oFw xpi gs0 ga0 gs1 ga1 gs2 ga2 qln qwy ijn rsz rhi rmi bsz bfi bla bar bwi srim sst fw fc fwh fbo fra fst fco fro) sz) := by
  refine Met.ofW (cc := cX7_greatest) (maxL := 3) (ret := (some .int)) (by decide) rfl ?_
  intro p e s m args below meth c s₁ B hml hv
  obtain ⟨rfl, hsz, hP, hK, hD0⟩ := hv
  have hx := B.exec
  have hb := B.bytes
  have hr := B.returns
  have hts : ∀ w ∈ tw, w.before _ s = true := fun w h => atoms_spec (ws := .code yX7_greatest cX7_greatest 3 (some .int) :: tw) B.pre w (List.mem_cons_of_mem _ h)
  have hown : s.vm.findClass RX7 = some m.cls := findClass_of_methodNamed B.named
  have hlocks := B.notSynchronized
  subst hsz
  have hD := hD0.self (sz := s.heap.size)
  have hl := lv_entry ([.ref oX, .int a1, .int a2]) (n := 3) (Nat.le_of_ble_eq_true rfl)
  rw [lg_entry_eq]
  generalize (lg_sl ([.ref oX, .int a1, .int a2]) ++ List.replicate (3 - (lg_sl ([.ref oX, .int a1, .int a2])).length) Slot.unset).toArray = ls at hl ⊢
  refine bX7_greatest hx hb hml hown hts hK (fun q h => Or.inr h) ⟨Nat.le_of_ble_eq_true rfl, Nat.le_of_ble_eq_true rfl, Nat.zero_le _, Nat.zero_le _⟩ hm ls hl hP hD va_S.rf (fun pc ls H locs hd hP hD hS => ?_)
  exact W.iret hx hb hr (fun t ht hW => ⟨⟨r, (), rfl, rfl, by rw [ht]; exact hP, va_K.moved hW.alike hK, hD⟩, hS.F ht⟩) hS.2.2 hd
set_option maxHeartbeats 4000000 in
set_option maxRecDepth 100000 in
theorem kX7_greatest {own : String} {cc : ByteArray} {nL idx pc : Nat} {ls : Array Slot} {rest : List Value} {ws wr : va_W} {n : Nat} {a1 : Int32} {a2 : Int32} {r : Int32} {y_bfi : (Int32)} {y_bla : (Int32)} {y_bar : (Int32)} (fx : CallFix p m c cc nL s args tw own) (hq : Cond.methodLink own idx yX7_greatest ∈ tw) (isC isR : List Nat) (hC : isC.map (fun i => ws[i]?) = ((wdX cJ cG cI oX oXp oXg oG0 oGa0 oG1 oGa1 oG2 oGa2 oQ oQw oI oR oRh oRm oB oBw oS oSs oF oFr oFs oFc oFw xpi gs0 ga0 gs1 ga1 gs2 ga2 qln qwy ijn rsz rhi rmi bsz bfi bla bar bwi srim sst fw fc fwh fbo fra fst fco fro) : va_W).map some) (hRr : isR.map (fun i => ws[i]?) = wr.map some) (hnC : va_nd isC = true) (hn : va_nd isR = true) (hdis : ∀ i ∈ isR, i ∉ isC) (hK : va_K D vwCl [(cI, .int), (cJ, .long), (cG, .object "WornShapes$Program")] s) (hm : mX7_greatest n bfi bla bar fc fco fro fw xpi a1 a2 = some (r, y_bfi, y_bla, y_bar)) (hsz : ls.size = nL) (hR : 4 ≤ R.frames ∧ 102 ≤ R.locals ∧ cells ≤ R.cells ∧ slots ≤ R.slots) (hst : (rest.map fun v => v.category).sum ≤ 8) (hd : decode cc pc = .ok (.invokevirtual idx, 3)) (hP : va_P D vwCl ws H) (hD : va_D A ws) (hS : va_S A s.heap H locs) (hA : ∀ q, s.heap.size ≤ q → A q) (kk : ∀ (H : Heap) (locs : List Loc), va_P D vwCl (wr ++ (wdX cJ cG cI oX oXp oXg oG0 oGa0 oG1 oGa1 oG2 oGa2 oQ oQw oI oR oRh oRm oB oBw oS oSs oF oFr oFs oFc oFw xpi gs0 ga0 gs1 ga1 gs2 ga2 qln qwy ijn rsz rhi rmi bsz y_bfi y_bla y_bar bwi srim sst fw fc fwh fbo fra fst fco fro)) H → va_D A (wr ++ (wdX cJ cG cI oX oXp oXg oG0 oGa0 oG1 oGa1 oG2 oGa2 oQ oQw oI oR oRh oRm oB oBw oS oSs oF oFr oFs oFc oFw xpi gs0 ga0 gs1 ga1 gs2 ga2 qln qwy ijn rsz rhi rmi bsz y_bfi y_bla y_bar bwi srim sst fw fc fwh fbo fra fst fco fro)) → va_S A s.heap H locs → W p l e R s m args below meth c H locs cells slots Q (F0 m (pc + 3) ls (.int r :: rest))) : W p l e R s m args below meth c H locs cells slots Q (F0 m pc ls (.int a2 :: .int a1 :: .ref oX :: rest)) := by
  have hPc := va_P.subM hP isC hC
  have hDc := hD.sub isC hnC hC
  have hFc := va_free (wc := (wdX cJ cG cI oX oXp oXg oG0 oGa0 oG1 oGa1 oG2 oGa2 oQ oQw oI oR oRh oRm oB oBw oS oSs oF oFr oFs oFc oFw xpi gs0 ga0 gs1 ga1 gs2 ga2 qln qwy ijn rsz rhi rmi bsz bfi bla bar bwi srim sst fw fc fwh fbo fra fst fco fro)) hD hS hA isC hC
  refine va_calli (va_runV (As := [.int a1, .int a2]) (rest := rest) fx (tX7_greatest l H.size hm) (cwV 2 fx.2.2.2.2 (tw_V hq qw_449 qw_450 qw_288 qw_451) rfl rfl rfl (by decide +kernel) ⟨hR.1, hR.2.1⟩) ⟨wrP_bl, va_recv hK hPc (ci := 7) (q0 := 0) rfl rfl, wrP_ok hPc hK hDc⟩ rfl rfl hsz rfl (lv_room hst) hd ⟨hR.2.2.1, hR.2.2.2⟩) hS (fun q _ h => hFc q h) hFc (fun r9 u t H1 locs ht hvm hw hB hz1 hk1 hS => ?_)
  obtain ⟨hP1, hK1, hD1⟩ := hB
  rw [ht] at hP1
  rw [hw]
  obtain ⟨hP2, hD2⟩ := va_join (wr := wr) (w1 := (wdX cJ cG cI oX oXp oXg oG0 oGa0 oG1 oGa1 oG2 oGa2 oQ oQw oI oR oRh oRm oB oBw oS oSs oF oFr oFs oFc oFw xpi gs0 ga0 gs1 ga1 gs2 ga2 qln qwy ijn rsz rhi rmi bsz y_bfi y_bla y_bar bwi srim sst fw fc fwh fbo fra fst fco fro)) hP hD isC isR hC hRr hn hdis hk1 hFc hP1 hD1
  exact kk H1 locs hP2 hD2 hS
end
