theorem qw_452 : Cond.constantLong RX8 69 (7) ∈ tw := tw_of (by decide +kernel) rfl
theorem qw_453 : Cond.instanceMethod yX8_field ∈ tw := tw_of (by decide +kernel) rfl
theorem qw_454 : Cond.selects RX8 yX8_field yX8_field ∈ tw := tw_of (by decide +kernel) rfl
theorem qw_455 : Cond.code yX8_field cX8_field 4 (some .int) ∈ tw := tw_of (by decide +kernel) rfl
theorem qw_456 : Cond.instanceMethod yX8_ink ∈ tw := tw_of (by decide +kernel) rfl
theorem qw_457 : Cond.selects RX8 yX8_ink yX8_ink ∈ tw := tw_of (by decide +kernel) rfl
theorem qw_458 : Cond.code yX8_ink cX8_ink 5 (some .int) ∈ tw := tw_of (by decide +kernel) rfl
theorem qw_459 : Cond.instanceMethod yX8_box ∈ tw := tw_of (by decide +kernel) rfl
theorem qw_460 : Cond.selects RX8 yX8_box yX8_box ∈ tw := tw_of (by decide +kernel) rfl
theorem qw_461 : Cond.code yX8_box cX8_box 7 (some .int) ∈ tw := tw_of (by decide +kernel) rfl
theorem qw_462 : Cond.constantLong RX8 94 (511) ∈ tw := tw_of (by decide +kernel) rfl
theorem qw_463 : Cond.instanceMethod yX8_stamp ∈ tw := tw_of (by decide +kernel) rfl
theorem qw_464 : Cond.selects RX8 yX8_stamp yX8_stamp ∈ tw := tw_of (by decide +kernel) rfl
theorem qw_465 : Cond.code yX8_stamp cX8_stamp 4 (some .int) ∈ tw := tw_of (by decide +kernel) rfl
theorem qw_466 : Cond.instanceMethod yX8_rule ∈ tw := tw_of (by decide +kernel) rfl
theorem qw_467 : Cond.selects RX8 yX8_rule yX8_rule ∈ tw := tw_of (by decide +kernel) rfl
theorem qw_468 : Cond.code yX8_rule cX8_rule 4 (some .int) ∈ tw := tw_of (by decide +kernel) rfl
theorem qw_469 : Cond.instanceMethod yX8_mix ∈ tw := tw_of (by decide +kernel) rfl
theorem qw_470 : Cond.selects RX8 yX8_mix yX8_mix ∈ tw := tw_of (by decide +kernel) rfl
theorem qw_471 : Cond.code yX8_mix cX8_mix 9 (some .int) ∈ tw := tw_of (by decide +kernel) rfl
theorem qw_472 : Cond.instanceMethod yX8_act ∈ tw := tw_of (by decide +kernel) rfl
theorem qw_473 : Cond.selects RX8 yX8_act yX8_act ∈ tw := tw_of (by decide +kernel) rfl
theorem qw_474 : Cond.code yX8_act cX8_act 3 (some .int) ∈ tw := tw_of (by decide +kernel) rfl
theorem qw_475 : Cond.instanceMethod yX8_add ∈ tw := tw_of (by decide +kernel) rfl
theorem qw_476 : Cond.selects RX8 yX8_add yX8_add ∈ tw := tw_of (by decide +kernel) rfl
theorem qw_477 : Cond.code yX8_add cX8_add 3 (some .int) ∈ tw := tw_of (by decide +kernel) rfl
theorem qw_478 : Cond.instanceMethod yX8_clear ∈ tw := tw_of (by decide +kernel) rfl
theorem qw_479 : Cond.selects RX8 yX8_clear yX8_clear ∈ tw := tw_of (by decide +kernel) rfl
theorem qw_480 : Cond.code yX8_clear cX8_clear 3 (some .int) ∈ tw := tw_of (by decide +kernel) rfl
theorem qw_481 : Cond.instanceMethod yX8_run ∈ tw := tw_of (by decide +kernel) rfl
theorem qw_482 : Cond.selects RX8 yX8_run yX8_run ∈ tw := tw_of (by decide +kernel) rfl
theorem qw_483 : Cond.code yX8_run cX8_run 3 (some .int) ∈ tw := tw_of (by decide +kernel) rfl
theorem qw_484 : Cond.instanceMethod yX8_keep ∈ tw := tw_of (by decide +kernel) rfl
theorem qw_485 : Cond.selects RX8 yX8_keep yX8_keep ∈ tw := tw_of (by decide +kernel) rfl
theorem qw_486 : Cond.code yX8_keep cX8_keep 3 (some .int) ∈ tw := tw_of (by decide +kernel) rfl
theorem qw_487 : Cond.instanceMethod yX8_pair ∈ tw := tw_of (by decide +kernel) rfl
theorem qw_488 : Cond.selects RX8 yX8_pair yX8_pair ∈ tw := tw_of (by decide +kernel) rfl
theorem qw_489 : Cond.code yX8_pair cX8_pair 3 (some .int) ∈ tw := tw_of (by decide +kernel) rfl
theorem qw_490 : Cond.instanceMethod yX8_forget ∈ tw := tw_of (by decide +kernel) rfl
theorem qw_491 : Cond.selects RX8 yX8_forget yX8_forget ∈ tw := tw_of (by decide +kernel) rfl
theorem qw_492 : Cond.code yX8_forget cX8_forget 1 (some .int) ∈ tw := tw_of (by decide +kernel) rfl
theorem qw_493 : Cond.instanceMethod yX8_thin ∈ tw := tw_of (by decide +kernel) rfl
theorem qw_494 : Cond.selects RX8 yX8_thin yX8_thin ∈ tw := tw_of (by decide +kernel) rfl
theorem qw_495 : Cond.code yX8_thin cX8_thin 7 (some .int) ∈ tw := tw_of (by decide +kernel) rfl
theorem qw_496 : Cond.fieldLink RX8 136 "WornShapesModel" "holeMany" "I" ∈ tw := tw_of (by decide +kernel) rfl
theorem qw_497 : Cond.methodLink RX8 146 yX8_edgeCells ∈ tw := tw_of (by decide +kernel) rfl
theorem qw_498 : Cond.instanceMethod yX8_holesOf ∈ tw := tw_of (by decide +kernel) rfl
theorem qw_499 : Cond.selects RX8 yX8_holesOf yX8_holesOf ∈ tw := tw_of (by decide +kernel) rfl
theorem qw_500 : Cond.code yX8_holesOf cX8_holesOf 10 (some .long) ∈ tw := tw_of (by decide +kernel) rfl
theorem qw_501 : Cond.methodLink RX8 149 yX8_holesOf ∈ tw := tw_of (by decide +kernel) rfl
theorem qw_502 : Cond.methodLink RX8 153 yX8_piecesOf ∈ tw := tw_of (by decide +kernel) rfl
theorem qw_503 : Cond.methodLink RX8 156 yX8_edgeOf ∈ tw := tw_of (by decide +kernel) rfl
theorem qw_504 : Cond.instanceMethod yX8_count ∈ tw := tw_of (by decide +kernel) rfl
theorem qw_505 : Cond.selects RX8 yX8_count yX8_count ∈ tw := tw_of (by decide +kernel) rfl
theorem qw_506 : Cond.code yX8_count cX8_count 7 (some .int) ∈ tw := tw_of (by decide +kernel) rfl
theorem qw_507 : Cond.instanceMethod yX8_fill ∈ tw := tw_of (by decide +kernel) rfl
theorem qw_508 : Cond.selects RX8 yX8_fill yX8_fill ∈ tw := tw_of (by decide +kernel) rfl
theorem qw_509 : Cond.code yX8_fill cX8_fill 4 (some .int) ∈ tw := tw_of (by decide +kernel) rfl
section
variable {A : Nat → Prop} {p : Program} {l : Launch} {e : Env} {R : Room} {s : State} {m : MethodId} {args : Array Value} {below : List Frame} {meth : Method} {c : Code} {H : Heap} {locs : List Loc} {cells slots : Nat} {Q : State → Prop} {D : va_G} {oF : Nat} {oFr : Nat} {oFs : Nat} {oFc : Nat} {oFw : Nat} {oS : Nat} {oSs : Nat} {oG : Nat} {oGa : Nat} {oQ : Nat} {oQw : Nat} {oI : Nat} {oR : Nat} {oRh : Nat} {oRm : Nat} {oB : Nat} {oBw : Nat} {oX : Nat} {oXp : Nat} {oXg : Nat} {oG0 : Nat} {oGa0 : Nat} {oG1 : Nat} {oGa1 : Nat} {oG2 : Nat} {oGa2 : Nat} {oM : Nat} {oM1 : Nat} {oM2 : Nat} {oM3 : Nat} {oM4 : Nat} {oM5 : Nat} {oM6 : Nat} {oM7 : Nat} {oM8 : Nat} {oM9 : Nat} {oM10 : Nat} {oM11 : Nat} {tS : Nat} {tA : Nat} {cI : ClassId} {cJ : ClassId} {cG : ClassId} {fw : Int32} {fc : Int32} {fwh : Int64} {fbo : Int64} {fra : Nat → Int32} {fco : Nat → Int32} {fro : Nat → Int32} {fst : Nat → Int64} {srim : Int32} {sst : Nat → Int32} {gsz : Int32} {gac : Nat → Int32} {qln : Int32} {qwy : Nat → Int32} {ijn : Int32} {rsz : Int32} {rhi : Nat → Int32} {rmi : Nat → Int32} {bsz : Int32} {bfi : Int32} {bla : Int32} {bar : Int32} {bwi : Nat → Int64} {xpi : Nat → Int64} {gs0 : Int32} {gs1 : Int32} {gs2 : Int32} {ga0 : Nat → Int32} {ga1 : Nat → Int32} {ga2 : Nat → Int32} {mw : Int32} {mt : Int32} {mrim : Int32} {mjn : Int32} {mhm : Int32} {mpn : Int32} {mbm : Int32} {mgm : Int32} {mpi : Nat → Int64} {mbe : Nat → Int64} {mgr : Nat → Int64} {mle : Nat → Int64} {mst : Nat → Int32} {mam : Nat → Int32} {mac : Nat → Int32} {mro : Nat → Int32} {mhi : Nat → Int32} {mmi : Nat → Int32} {mtr : Nat → Int32}
-- X8_field
def mX8_field_L43 (n : Nat) : Nat → (Int32) → (Nat → Int64) → Option ((Nat → Int64))
  | 0, _, _ => none
  | k + 1, v3, mpi => (if (5 : Int32) ≤ v3 then some (mpi) else gd (ib v3 5) (mX8_field_L43 n k (v3 + (1 : Int32)) (vp_updL mpi v3.toNatClampNeg (0 : Int64))))
def mX8_field (n : Nat) (mw : Int32) (mt : Int32) (mpi : Nat → Int64) (a1 : Int32) (a2 : Int32) : Option (Int32 × (Int32) × (Int32) × (Nat → Int64)) :=
  (if (mX8_in ((a1).toInt64) (2 : Int64) (7 : Int64)) = 0 then (some ((-2 : Int32), mw, mt, mpi)) else (if (mX8_in ((a2).toInt64) (2 : Int64) (7 : Int64)) = 0 then (some ((-2 : Int32), mw, mt, mpi)) else jb (mX8_field_L43 n n (0 : Int32) mpi) (fun (y8 : Nat → Int64) => (some ((a1 * a2), a1, a2, y8)))))
theorem dX8_field_0 : decode cX8_field 0 = .ok (.iload_n 1, 1) := by decide +kernel
theorem dX8_field_1 : decode cX8_field 1 = .ok (.i2l, 1) := by decide +kernel
theorem dX8_field_2 : decode cX8_field 2 = .ok (.ldc2_w 67, 3) := by decide +kernel
theorem dX8_field_5 : decode cX8_field 5 = .ok (.ldc2_w 69, 3) := by decide +kernel
theorem dX8_field_8 : decode cX8_field 8 = .ok (.invokestatic 63, 3) := by decide +kernel
theorem dX8_field_11 : decode cX8_field 11 = .ok (.ifCond .eq 17, 3) := by decide +kernel
theorem dX8_field_14 : decode cX8_field 14 = .ok (.iload_n 2, 1) := by decide +kernel
theorem dX8_field_15 : decode cX8_field 15 = .ok (.i2l, 1) := by decide +kernel
theorem dX8_field_16 : decode cX8_field 16 = .ok (.ldc2_w 67, 3) := by decide +kernel
theorem dX8_field_19 : decode cX8_field 19 = .ok (.ldc2_w 69, 3) := by decide +kernel
theorem dX8_field_22 : decode cX8_field 22 = .ok (.invokestatic 63, 3) := by decide +kernel
theorem dX8_field_25 : decode cX8_field 25 = .ok (.ifCond .ne 6, 3) := by decide +kernel
theorem dX8_field_28 : decode cX8_field 28 = .ok (.bipush (-2), 2) := by decide +kernel
theorem dX8_field_30 : decode cX8_field 30 = .ok (.ireturn, 1) := by decide +kernel
theorem dX8_field_31 : decode cX8_field 31 = .ok (.aload_n 0, 1) := by decide +kernel
theorem dX8_field_32 : decode cX8_field 32 = .ok (.iload_n 1, 1) := by decide +kernel
theorem dX8_field_33 : decode cX8_field 33 = .ok (.putfield 7, 3) := by decide +kernel
theorem dX8_field_36 : decode cX8_field 36 = .ok (.aload_n 0, 1) := by decide +kernel
theorem dX8_field_37 : decode cX8_field 37 = .ok (.iload_n 2, 1) := by decide +kernel
theorem dX8_field_38 : decode cX8_field 38 = .ok (.putfield 13, 3) := by decide +kernel
theorem dX8_field_41 : decode cX8_field 41 = .ok (.iconst 0, 1) := by decide +kernel
theorem dX8_field_42 : decode cX8_field 42 = .ok (.istore_n 3, 1) := by decide +kernel
theorem dX8_field_43 : decode cX8_field 43 = .ok (.iload_n 3, 1) := by decide +kernel
theorem dX8_field_44 : decode cX8_field 44 = .ok (.iconst 5, 1) := by decide +kernel
theorem dX8_field_45 : decode cX8_field 45 = .ok (.if_icmp .ge 16, 3) := by decide +kernel
theorem dX8_field_48 : decode cX8_field 48 = .ok (.aload_n 0, 1) := by decide +kernel
theorem dX8_field_49 : decode cX8_field 49 = .ok (.getfield 16, 3) := by decide +kernel
theorem dX8_field_52 : decode cX8_field 52 = .ok (.iload_n 3, 1) := by decide +kernel
theorem dX8_field_53 : decode cX8_field 53 = .ok (.lconst 0, 1) := by decide +kernel
theorem dX8_field_54 : decode cX8_field 54 = .ok (.lastore, 1) := by decide +kernel
theorem dX8_field_55 : decode cX8_field 55 = .ok (.iinc 3 1, 3) := by decide +kernel
theorem dX8_field_58 : decode cX8_field 58 = .ok (.goto (-15), 3) := by decide +kernel
theorem dX8_field_61 : decode cX8_field 61 = .ok (.iload_n 1, 1) := by decide +kernel
theorem dX8_field_62 : decode cX8_field 62 = .ok (.iload_n 2, 1) := by decide +kernel
theorem dX8_field_63 : decode cX8_field 63 = .ok (.imul, 1) := by decide +kernel
theorem dX8_field_64 : decode cX8_field 64 = .ok (.ireturn, 1) := by decide +kernel
set_option maxHeartbeats 4000000 in
set_option maxRecDepth 100000 in
theorem wX8_field_L43 {n : Nat} {v1 : Int32} {v2 : Int32} (hx : p.tables.exec = Jvm.exec) (hb : c.code = cX8_field) (hml : c.maxLocals = 4) (hown : s.vm.findClass RX8 = some m.cls) (hts : ∀ w ∈ tw, w.before args s = true) (hK : va_K D vwCl [(cI, .int), (cJ, .long)] s) (hA : ∀ q, s.heap.size ≤ q → A q) (hR : 1 ≤ R.frames ∧ 25 ≤ R.locals ∧ cells ≤ R.cells ∧ slots ≤ R.slots) : ∀ (k : Nat) (v3 : Int32) (mpi : Nat → Int64) (x_mpi : Nat → Int64), mX8_field_L43 n k v3 mpi = some (x_mpi) → ∀ ls : Array Slot, lv_has ls 4 [(0, .ref oM), (1, .int v1), (2, .int v2), (3, .int v3)] → ∀ (H : Heap) (locs : List Loc), va_P D vwCl (wdM cJ cI oM oM1 oM2 oM3 oM4 oM5 oM6 oM7 oM8 oM9 oM10 oM11 mw mt mrim mjn mhm mpn mbm mgm mpi mst mam mac mro mbe mhi mmi mgr mtr mle) H → va_D A (wdM cJ cI oM oM1 oM2 oM3 oM4 oM5 oM6 oM7 oM8 oM9 oM10 oM11 mw mt mrim mjn mhm mpn mbm mgm mpi mst mam mac mro mbe mhi mmi mgr mtr mle) → va_S A s.heap H locs → (∀ ls : Array Slot, lv_has ls 4 [(1, .int v1), (2, .int v2)] → ∀ (H : Heap) (locs : List Loc), va_P D vwCl (wdM cJ cI oM oM1 oM2 oM3 oM4 oM5 oM6 oM7 oM8 oM9 oM10 oM11 mw mt mrim mjn mhm mpn mbm mgm x_mpi mst mam mac mro mbe mhi mmi mgr mtr mle) H → va_D A (wdM cJ cI oM oM1 oM2 oM3 oM4 oM5 oM6 oM7 oM8 oM9 oM10 oM11 mw mt mrim mjn mhm mpn mbm mgm x_mpi mst mam mac mro mbe mhi mmi mgr mtr mle) → va_S A s.heap H locs → W p l e R s m args below meth c H locs cells slots Q (F0 m 61 ls [])) → W p l e R s m args below meth c H locs cells slots Q (F0 m 43 ls []) := by
  intro k
  induction k with
  | zero => intro v3 mpi x_mpi hm; rw [mX8_field_L43] at hm; cases hm
  | succ k ih =>
    intro v3 mpi x_mpi hm ls hl H locs hP hD hS K0
    rw [mX8_field_L43] at hm
    refine lv_iload_n hx hb dX8_field_43 rfl (lv_at hl 3 rfl) ?_
    refine lv_iconst (v := (5 : Int32)) hx hb dX8_field_44 (by decide) ?_
    refine lv_icmp_ge (tgt := 61) hx hb dX8_field_45 (by decide) (fun c6 => ?_) (fun c6 => ?_)
    · rw [if_pos c6] at hm
      have hm := Option.some.inj hm
      have e9 : x_mpi = mpi := (congrArg (fun q => q) hm).symm
      rw [e9] at K0
      exact K0 ls (lv_sub hl [1, 2] rfl) _ _ hP hD hS
    · rw [if_neg c6] at hm
      refine lv_aload_n hx hb dX8_field_48 rfl (lv_at hl 0 rfl) ?_
      refine va_get (D := D) (ci := 8) (v := .ref oM1) (C := RX8) (T := TX8) (N := 19) hx hb hts tnX8 hown hK hP 0 rfl rfl 2 (by decide) (hts _ qw_103) (fun _ h9 => h9) rfl dX8_field_49 ?_
      refine lv_iload_n hx hb dX8_field_52 rfl (lv_at hl 3 rfl) ?_
      refine lv_lconst (v := (0 : Int64)) hx hb dX8_field_53 (by decide) ?_
      obtain ⟨g7, hm⟩ := gd_out hm
      refine va_last hx hb hK hP hD hS 1 1 rfl rfl g7 dX8_field_54 (fun H locs hP hD hS => ?_)
      have hP : va_P D vwCl (wdM cJ cI oM oM1 oM2 oM3 oM4 oM5 oM6 oM7 oM8 oM9 oM10 oM11 mw mt mrim mjn mhm mpn mbm mgm (vp_updL mpi v3.toNatClampNeg (0 : Int64)) mst mam mac mro mbe mhi mmi mgr mtr mle) H := hP
      have hD : va_D A (wdM cJ cI oM oM1 oM2 oM3 oM4 oM5 oM6 oM7 oM8 oM9 oM10 oM11 mw mt mrim mjn mhm mpn mbm mgm (vp_updL mpi v3.toNatClampNeg (0 : Int64)) mst mam mac mro mbe mhi mmi mgr mtr mle) := hD
      refine lv_iinc (v := (v3 + (1 : Int32))) (lv' := [(3, .int (v3 + (1 : Int32))), (0, .ref oM), (1, .int v1), (2, .int v2)]) hx hb dX8_field_55 hl (k := 3) rfl (by rfl) (by decide) rfl (fun ls hl => ?_)
      refine lv_goto (tgt := 43) hx hb dX8_field_58 (by decide) ?_
      exact ih _ _ _ hm ls (lv_sub hl [1, 2, 3, 0] rfl) _ _ hP hD hS K0
set_option maxHeartbeats 4000000 in
set_option maxRecDepth 100000 in
theorem bX8_field {n : Nat} {a1 : Int32} {a2 : Int32} {r : Int32} {y_mw : (Int32)} {y_mt : (Int32)} {y_mpi : (Nat → Int64)} (hx : p.tables.exec = Jvm.exec) (hb : c.code = cX8_field) (hml : c.maxLocals = 4) (hown : s.vm.findClass RX8 = some m.cls) (hts : ∀ w ∈ tw, w.before args s = true) (hK : va_K D vwCl [(cI, .int), (cJ, .long)] s) (hA : ∀ q, s.heap.size ≤ q → A q) (hR : 1 ≤ R.frames ∧ 25 ≤ R.locals ∧ cells ≤ R.cells ∧ slots ≤ R.slots) (hm : mX8_field n mw mt mpi a1 a2 = some (r, y_mw, y_mt, y_mpi)) (ls : Array Slot) (hl : lv_has ls 4 [(0, .ref oM), (1, .int a1), (2, .int a2)]) (hP : va_P D vwCl (wdM cJ cI oM oM1 oM2 oM3 oM4 oM5 oM6 oM7 oM8 oM9 oM10 oM11 mw mt mrim mjn mhm mpn mbm mgm mpi mst mam mac mro mbe mhi mmi mgr mtr mle) H) (hD : va_D A (wdM cJ cI oM oM1 oM2 oM3 oM4 oM5 oM6 oM7 oM8 oM9 oM10 oM11 mw mt mrim mjn mhm mpn mbm mgm mpi mst mam mac mro mbe mhi mmi mgr mtr mle)) (hS : va_S A s.heap H locs) (K : ∀ (pc : Nat) (ls : Array Slot) (H : Heap) (locs : List Loc), decode cX8_field pc = .ok (.ireturn, 1) → va_P D vwCl (wdM cJ cI oM oM1 oM2 oM3 oM4 oM5 oM6 oM7 oM8 oM9 oM10 oM11 y_mw y_mt mrim mjn mhm mpn mbm mgm y_mpi mst mam mac mro mbe mhi mmi mgr mtr mle) H → va_D A (wdM cJ cI oM oM1 oM2 oM3 oM4 oM5 oM6 oM7 oM8 oM9 oM10 oM11 y_mw y_mt mrim mjn mhm mpn mbm mgm y_mpi mst mam mac mro mbe mhi mmi mgr mtr mle) → va_S A s.heap H locs → W p l e R s m args below meth c H locs cells slots Q (F0 m pc ls [.int r])) : W p l e R s m args below meth c H locs cells slots Q (F0 m 0 ls []) := by
  unfold mX8_field at hm
  refine lv_iload_n hx hb dX8_field_0 rfl (lv_at hl 1 rfl) ?_
  refine lv_i2l (v := ((a1).toInt64)) hx hb dX8_field_1 rfl ?_
  refine lv_ldc2 (v := (2 : Int64)) hx hb hown (hts _ qw_116) dX8_field_2 ?_
  refine lv_ldc2 (v := (7 : Int64)) hx hb hown (hts _ qw_452) dX8_field_5 ?_
  refine kX8_in ⟨hx, hb, hml, hown, hts⟩ qw_65 hl.1 ⟨Nat.le_trans (by decide) hR.1, Nat.le_trans (by decide) hR.2.1, hR.2.2⟩ (Nat.le_of_ble_eq_true rfl) dX8_field_8 ?_
  refine lv_if_eq (tgt := 28) hx hb dX8_field_11 (by decide) (fun c2 => ?_) (fun c2 => ?_)
  · rw [if_pos c2] at hm
    refine lv_bipush (v := (-2 : Int32)) hx hb dX8_field_28 (by decide) ?_
    have hm := Option.some.inj hm
    have e9 : r = (-2 : Int32) := (congrArg (fun q => q.1) hm).symm
    rw [e9] at K
    have e9 : y_mw = mw := (congrArg (fun q => q.2.1) hm).symm
    rw [e9] at K
    have e9 : y_mt = mt := (congrArg (fun q => q.2.2.1) hm).symm
    rw [e9] at K
    have e9 : y_mpi = mpi := (congrArg (fun q => q.2.2.2) hm).symm
    rw [e9] at K
    exact K 30 ls _ _ dX8_field_30 hP hD hS
  · rw [if_neg c2] at hm
    refine lv_iload_n hx hb dX8_field_14 rfl (lv_at hl 2 rfl) ?_
    refine lv_i2l (v := ((a2).toInt64)) hx hb dX8_field_15 rfl ?_
    refine lv_ldc2 (v := (2 : Int64)) hx hb hown (hts _ qw_116) dX8_field_16 ?_
    refine lv_ldc2 (v := (7 : Int64)) hx hb hown (hts _ qw_452) dX8_field_19 ?_
    refine kX8_in ⟨hx, hb, hml, hown, hts⟩ qw_65 hl.1 ⟨Nat.le_trans (by decide) hR.1, Nat.le_trans (by decide) hR.2.1, hR.2.2⟩ (Nat.le_of_ble_eq_true rfl) dX8_field_22 ?_
    refine lv_if_ne (tgt := 31) hx hb dX8_field_25 (by decide) (fun c4 => ?_) (fun c4 => ?_)
    · rw [if_neg c4] at hm
      refine lv_aload_n hx hb dX8_field_31 rfl (lv_at hl 0 rfl) ?_
      refine lv_iload_n hx hb dX8_field_32 rfl (lv_at hl 1 rfl) ?_
      refine va_put (D := D) (ci := 8) (v := .int a1) (ty := .int) (C := RX8) (T := TX8) (N := 19) hx hb hts tnX8 tyX8 tyX8_ok nmX8 hown hK hP hD hS 0 rfl rfl 0 (by decide) (hts _ qw_55) (fun _ h9 => h9) rfl (by decide +kernel) rfl rfl (Nat.le_of_ble_eq_true rfl) dX8_field_33 (fun H locs hP hD hS => ?_)
      have hP : va_P D vwCl (wdM cJ cI oM oM1 oM2 oM3 oM4 oM5 oM6 oM7 oM8 oM9 oM10 oM11 a1 mt mrim mjn mhm mpn mbm mgm mpi mst mam mac mro mbe mhi mmi mgr mtr mle) H := hP
      have hD : va_D A (wdM cJ cI oM oM1 oM2 oM3 oM4 oM5 oM6 oM7 oM8 oM9 oM10 oM11 a1 mt mrim mjn mhm mpn mbm mgm mpi mst mam mac mro mbe mhi mmi mgr mtr mle) := hD
      refine lv_aload_n hx hb dX8_field_36 rfl (lv_at hl 0 rfl) ?_
      refine lv_iload_n hx hb dX8_field_37 rfl (lv_at hl 2 rfl) ?_
      refine va_put (D := D) (ci := 8) (v := .int a2) (ty := .int) (C := RX8) (T := TX8) (N := 19) hx hb hts tnX8 tyX8 tyX8_ok nmX8 hown hK hP hD hS 0 rfl rfl 1 (by decide) (hts _ qw_56) (fun _ h9 => h9) rfl (by decide +kernel) rfl rfl (Nat.le_of_ble_eq_true rfl) dX8_field_38 (fun H locs hP hD hS => ?_)
      have hP : va_P D vwCl (wdM cJ cI oM oM1 oM2 oM3 oM4 oM5 oM6 oM7 oM8 oM9 oM10 oM11 a1 a2 mrim mjn mhm mpn mbm mgm mpi mst mam mac mro mbe mhi mmi mgr mtr mle) H := hP
      have hD : va_D A (wdM cJ cI oM oM1 oM2 oM3 oM4 oM5 oM6 oM7 oM8 oM9 oM10 oM11 a1 a2 mrim mjn mhm mpn mbm mgm mpi mst mam mac mro mbe mhi mmi mgr mtr mle) := hD
      refine lv_iconst (v := (0 : Int32)) hx hb dX8_field_41 (by decide) ?_
      refine lv_istore_n (lv' := [(3, .int (0 : Int32)), (0, .ref oM), (1, .int a1), (2, .int a2)]) hx hb dX8_field_42 rfl hl (by decide) rfl (fun ls hl => ?_)
      obtain ⟨y8, h9, hm⟩ := jb_out hm
      refine wX8_field_L43 hx hb hml hown hts hK hA hR n _ _ _  h9 ls (lv_sub hl [1, 2, 3, 0] rfl) _ _ hP hD hS (fun ls hl H locs hP hD hS => ?_)
      refine lv_iload_n hx hb dX8_field_61 rfl (lv_at hl 0 rfl) ?_
      refine lv_iload_n hx hb dX8_field_62 rfl (lv_at hl 1 rfl) ?_
      refine lv_imul hx hb dX8_field_63 ?_
      have hm := Option.some.inj hm
      have e9 : r = (a1 * a2) := (congrArg (fun q => q.1) hm).symm
      rw [e9] at K
      have e9 : y_mw = a1 := (congrArg (fun q => q.2.1) hm).symm
      rw [e9] at K
      have e9 : y_mt = a2 := (congrArg (fun q => q.2.2.1) hm).symm
      rw [e9] at K
      have e9 : y_mpi = y8 := (congrArg (fun q => q.2.2.2) hm).symm
      rw [e9] at K
      exact K 64 ls _ _ dX8_field_64 hP hD hS
    · rw [if_pos c4] at hm
      refine lv_bipush (v := (-2 : Int32)) hx hb dX8_field_28 (by decide) ?_
      have hm := Option.some.inj hm
      have e9 : r = (-2 : Int32) := (congrArg (fun q => q.1) hm).symm
      rw [e9] at K
      have e9 : y_mw = mw := (congrArg (fun q => q.2.1) hm).symm
      rw [e9] at K
      have e9 : y_mt = mt := (congrArg (fun q => q.2.2.1) hm).symm
      rw [e9] at K
      have e9 : y_mpi = mpi := (congrArg (fun q => q.2.2.2) hm).symm
      rw [e9] at K
      exact K 30 ls _ _ dX8_field_30 hP hD hS
set_option maxHeartbeats 4000000 in
set_option maxRecDepth 100000 in
theorem tX8_field (l : Launch) {D : va_G} (sz : Nat) {n : Nat} {a1 : Int32} {a2 : Int32} {r : Int32} {y_mw : (Int32)} {y_mt : (Int32)} {y_mpi : (Nat → Int64)} (hm : mX8_field n mw mt mpi a1 a2 = some (r, y_mw, y_mt, y_mpi)) : Met l yX8_field (.code yX8_field cX8_field 4 (some .int) :: tw) ({ frames := 1, cells := 0, slots := 0, locals := 25 } : Room) (wrP D [.ref oM, .int a1, .int a2] (wdM cJ cI oM oM1 oM2 oM3 oM4 oM5 oM6 oM7 oM8 oM9 oM10 oM11 mw mt mrim mjn mhm mpn mbm mgm mpi mst mam mac mro mbe mhi mmi mgr mtr mle) [(cI, .int), (cJ, .long)] sz) (va_Qi (fun q (_ : Unit) => q = r) (fun (_ : Unit) (t : State) => va_P D vwCl (wdM cJ cI oM oM1 oM2 oM3 oM4 oM5 oM6 oM7 oM8 oM9 oM10 oM11 y_mw y_mt mrim mjn mhm mpn mbm mgm y_mpi mst mam mac mro mbe mhi mmi mgr mtr mle) t.heap ∧ va_K D vwCl [(cI, .int), (cJ, .long)] t ∧ va_D (va_A (wdM cJ cI oM oM1 oM2 oM3 oM4 oM5 oM6 oM7 oM8 oM9 oM10 oM11 mw mt mrim mjn mhm mpn mbm mgm mpi mst mam mac mro mbe mhi mmi mgr mtr mle) sz) (wdM cJ cI oM oM1 oM2 oM3 oM4 oM5 oM6 oM7 oM8 oM9 oM10 oM11 y_mw y_mt mrim mjn mhm mpn mbm mgm y_mpi mst mam mac mro mbe mhi mmi mgr mtr mle)) (va_A (wdM cJ cI oM oM1 oM2 oM3 oM4 oM5 oM6 oM7 oM8 oM9 oM10 oM11 mw mt mrim mjn mhm mpn mbm mgm mpi mst mam mac mro mbe mhi mmi mgr mtr mle) sz)) 0 0 (va_A (wdM cJ cI oM oM1 oM2 oM3 oM4 oM5 oM6 oM7 oM8 oM9 oM10 oM11 mw mt mrim mjn mhm mpn mbm mgm mpi mst mam mac mro mbe mhi mmi mgr mtr mle) sz) := by
  refine Met.ofW (cc := cX8_field) (maxL := 4) (ret := (some .int)) (by decide) rfl ?_
  intro p e s m args below meth c s₁ B hml hv
  obtain ⟨rfl, hsz, hP, hK, hD0⟩ := hv
  have hx := B.exec
  have hb := B.bytes
  have hr := B.returns
  have hts : ∀ w ∈ tw, w.before _ s = true := fun w h => atoms_spec (ws := .code yX8_field cX8_field 4 (some .int) :: tw) B.pre w (List.mem_cons_of_mem _ h)
  have hown : s.vm.findClass RX8 = some m.cls := findClass_of_methodNamed B.named
  have hlocks := B.notSynchronized
  subst hsz
  have hD := hD0.self (sz := s.heap.size)
  have hl := lv_entry ([.ref oM, .int a1, .int a2]) (n := 4) (Nat.le_of_ble_eq_true rfl)
  rw [lg_entry_eq]
  generalize (lg_sl ([.ref oM, .int a1, .int a2]) ++ List.replicate (4 - (lg_sl ([.ref oM, .int a1, .int a2])).length) Slot.unset).toArray = ls at hl ⊢
  refine bX8_field hx hb hml hown hts hK (fun q h => Or.inr h) ⟨Nat.le_of_ble_eq_true rfl, Nat.le_of_ble_eq_true rfl, Nat.zero_le _, Nat.zero_le _⟩ hm ls hl hP hD va_S.rf (fun pc ls H locs hd hP hD hS => ?_)
  exact W.iret hx hb hr (fun t ht hW => ⟨⟨r, (), rfl, rfl, by rw [ht]; exact hP, va_K.moved hW.alike hK, hD⟩, hS.F ht⟩) hS.2.2 hd
set_option maxHeartbeats 4000000 in
set_option maxRecDepth 100000 in
theorem kX8_field {own : String} {cc : ByteArray} {nL idx pc : Nat} {ls : Array Slot} {rest : List Value} {ws wr : va_W} {n : Nat} {a1 : Int32} {a2 : Int32} {r : Int32} {y_mw : (Int32)} {y_mt : (Int32)} {y_mpi : (Nat → Int64)} (fx : CallFix p m c cc nL s args tw own) (hq : Cond.methodLink own idx yX8_field ∈ tw) (isC isR : List Nat) (hC : isC.map (fun i => ws[i]?) = ((wdM cJ cI oM oM1 oM2 oM3 oM4 oM5 oM6 oM7 oM8 oM9 oM10 oM11 mw mt mrim mjn mhm mpn mbm mgm mpi mst mam mac mro mbe mhi mmi mgr mtr mle) : va_W).map some) (hRr : isR.map (fun i => ws[i]?) = wr.map some) (hnC : va_nd isC = true) (hn : va_nd isR = true) (hdis : ∀ i ∈ isR, i ∉ isC) (hK : va_K D vwCl [(cI, .int), (cJ, .long)] s) (hm : mX8_field n mw mt mpi a1 a2 = some (r, y_mw, y_mt, y_mpi)) (hsz : ls.size = nL) (hR : 2 ≤ R.frames ∧ 48 ≤ R.locals ∧ cells ≤ R.cells ∧ slots ≤ R.slots) (hst : (rest.map fun v => v.category).sum ≤ 8) (hd : decode cc pc = .ok (.invokevirtual idx, 3)) (hP : va_P D vwCl ws H) (hD : va_D A ws) (hS : va_S A s.heap H locs) (hA : ∀ q, s.heap.size ≤ q → A q) (kk : ∀ (H : Heap) (locs : List Loc), va_P D vwCl (wr ++ (wdM cJ cI oM oM1 oM2 oM3 oM4 oM5 oM6 oM7 oM8 oM9 oM10 oM11 y_mw y_mt mrim mjn mhm mpn mbm mgm y_mpi mst mam mac mro mbe mhi mmi mgr mtr mle)) H → va_D A (wr ++ (wdM cJ cI oM oM1 oM2 oM3 oM4 oM5 oM6 oM7 oM8 oM9 oM10 oM11 y_mw y_mt mrim mjn mhm mpn mbm mgm y_mpi mst mam mac mro mbe mhi mmi mgr mtr mle)) → va_S A s.heap H locs → W p l e R s m args below meth c H locs cells slots Q (F0 m (pc + 3) ls (.int r :: rest))) : W p l e R s m args below meth c H locs cells slots Q (F0 m pc ls (.int a2 :: .int a1 :: .ref oM :: rest)) := by
  have hPc := va_P.subM hP isC hC
  have hDc := hD.sub isC hnC hC
  have hFc := va_free (wc := (wdM cJ cI oM oM1 oM2 oM3 oM4 oM5 oM6 oM7 oM8 oM9 oM10 oM11 mw mt mrim mjn mhm mpn mbm mgm mpi mst mam mac mro mbe mhi mmi mgr mtr mle)) hD hS hA isC hC
  refine va_calli (va_runV (As := [.int a1, .int a2]) (rest := rest) fx (tX8_field l H.size hm) (cwV 2 fx.2.2.2.2 (tw_V hq qw_453 qw_454 qw_53 qw_455) rfl rfl rfl (by decide +kernel) ⟨hR.1, hR.2.1⟩) ⟨wrP_bl, va_recv hK hPc (ci := 8) (q0 := 0) rfl rfl, wrP_ok hPc hK hDc⟩ rfl rfl hsz rfl (lv_room hst) hd ⟨hR.2.2.1, hR.2.2.2⟩) hS (fun q _ h => hFc q h) hFc (fun r9 u t H1 locs ht hvm hw hB hz1 hk1 hS => ?_)
  obtain ⟨hP1, hK1, hD1⟩ := hB
  rw [ht] at hP1
  rw [hw]
  obtain ⟨hP2, hD2⟩ := va_join (wr := wr) (w1 := (wdM cJ cI oM oM1 oM2 oM3 oM4 oM5 oM6 oM7 oM8 oM9 oM10 oM11 y_mw y_mt mrim mjn mhm mpn mbm mgm y_mpi mst mam mac mro mbe mhi mmi mgr mtr mle)) hP hD isC isR hC hRr hn hdis hk1 hFc hP1 hD1
  exact kk H1 locs hP2 hD2 hS
-- X8_ink
def mX8_ink (mpi : Nat → Int64) (mw : Int32) (mt : Int32) (a1 : Int32) (a2 : Int32) (a3 : Int32) : Option (Int32 × (Nat → Int64)) :=
  (if (mX8_isPicture a1) = 0 then (some ((-1 : Int32), mpi)) else (if (mX8_isCell mw mt a2) = 0 then (some ((-1 : Int32), mpi)) else gd (ib a1 5) (jl (if (mX8_has (mpi a1.toNatClampNeg) a2) = 0 then (0 : Int32) else (1 : Int32)) (fun j7 => jb (if a3 = 0 then gd (ib a1 5) ((some (((mpi a1.toNatClampNeg) &&& ((jlshl (1 : Int64) a2) ^^^ (-1 : Int64)))))) else gd (ib a1 5) ((some (((mpi a1.toNatClampNeg) ||| (jlshl (1 : Int64) a2)))))) (fun (j11 : Int64) => gd (ib a1 5) ((some (j7, (vp_updL mpi a1.toNatClampNeg j11)))))))))
theorem dX8_ink_0 : decode cX8_ink 0 = .ok (.iload_n 1, 1) := by decide +kernel
theorem dX8_ink_1 : decode cX8_ink 1 = .ok (.invokestatic 71, 3) := by decide +kernel
theorem dX8_ink_4 : decode cX8_ink 4 = .ok (.ifCond .eq 11, 3) := by decide +kernel
theorem dX8_ink_7 : decode cX8_ink 7 = .ok (.aload_n 0, 1) := by decide +kernel
theorem dX8_ink_8 : decode cX8_ink 8 = .ok (.iload_n 2, 1) := by decide +kernel
theorem dX8_ink_9 : decode cX8_ink 9 = .ok (.invokevirtual 75, 3) := by decide +kernel
theorem dX8_ink_12 : decode cX8_ink 12 = .ok (.ifCond .ne 5, 3) := by decide +kernel
theorem dX8_ink_15 : decode cX8_ink 15 = .ok (.iconst (-1), 1) := by decide +kernel
theorem dX8_ink_16 : decode cX8_ink 16 = .ok (.ireturn, 1) := by decide +kernel
theorem dX8_ink_17 : decode cX8_ink 17 = .ok (.aload_n 0, 1) := by decide +kernel
theorem dX8_ink_18 : decode cX8_ink 18 = .ok (.getfield 16, 3) := by decide +kernel
theorem dX8_ink_21 : decode cX8_ink 21 = .ok (.iload_n 1, 1) := by decide +kernel
theorem dX8_ink_22 : decode cX8_ink 22 = .ok (.laload, 1) := by decide +kernel
theorem dX8_ink_23 : decode cX8_ink 23 = .ok (.iload_n 2, 1) := by decide +kernel
theorem dX8_ink_24 : decode cX8_ink 24 = .ok (.invokestatic 78, 3) := by decide +kernel
theorem dX8_ink_27 : decode cX8_ink 27 = .ok (.ifCond .eq 7, 3) := by decide +kernel
theorem dX8_ink_30 : decode cX8_ink 30 = .ok (.iconst 1, 1) := by decide +kernel
theorem dX8_ink_31 : decode cX8_ink 31 = .ok (.goto 4, 3) := by decide +kernel
theorem dX8_ink_34 : decode cX8_ink 34 = .ok (.iconst 0, 1) := by decide +kernel
theorem dX8_ink_35 : decode cX8_ink 35 = .ok (.istore 4, 2) := by decide +kernel
theorem dX8_ink_37 : decode cX8_ink 37 = .ok (.aload_n 0, 1) := by decide +kernel
theorem dX8_ink_38 : decode cX8_ink 38 = .ok (.getfield 16, 3) := by decide +kernel
theorem dX8_ink_41 : decode cX8_ink 41 = .ok (.iload_n 1, 1) := by decide +kernel
theorem dX8_ink_42 : decode cX8_ink 42 = .ok (.iload_n 3, 1) := by decide +kernel
theorem dX8_ink_43 : decode cX8_ink 43 = .ok (.ifCond .eq 16, 3) := by decide +kernel
theorem dX8_ink_46 : decode cX8_ink 46 = .ok (.aload_n 0, 1) := by decide +kernel
theorem dX8_ink_47 : decode cX8_ink 47 = .ok (.getfield 16, 3) := by decide +kernel
theorem dX8_ink_50 : decode cX8_ink 50 = .ok (.iload_n 1, 1) := by decide +kernel
theorem dX8_ink_51 : decode cX8_ink 51 = .ok (.laload, 1) := by decide +kernel
theorem dX8_ink_52 : decode cX8_ink 52 = .ok (.lconst 1, 1) := by decide +kernel
theorem dX8_ink_53 : decode cX8_ink 53 = .ok (.iload_n 2, 1) := by decide +kernel
theorem dX8_ink_54 : decode cX8_ink 54 = .ok (.lshl, 1) := by decide +kernel
theorem dX8_ink_55 : decode cX8_ink 55 = .ok (.lor, 1) := by decide +kernel
theorem dX8_ink_56 : decode cX8_ink 56 = .ok (.goto 17, 3) := by decide +kernel
theorem dX8_ink_59 : decode cX8_ink 59 = .ok (.aload_n 0, 1) := by decide +kernel
theorem dX8_ink_60 : decode cX8_ink 60 = .ok (.getfield 16, 3) := by decide +kernel
theorem dX8_ink_63 : decode cX8_ink 63 = .ok (.iload_n 1, 1) := by decide +kernel
theorem dX8_ink_64 : decode cX8_ink 64 = .ok (.laload, 1) := by decide +kernel
theorem dX8_ink_65 : decode cX8_ink 65 = .ok (.lconst 1, 1) := by decide +kernel
theorem dX8_ink_66 : decode cX8_ink 66 = .ok (.iload_n 2, 1) := by decide +kernel
theorem dX8_ink_67 : decode cX8_ink 67 = .ok (.lshl, 1) := by decide +kernel
theorem dX8_ink_68 : decode cX8_ink 68 = .ok (.ldc2_w 82, 3) := by decide +kernel
theorem dX8_ink_71 : decode cX8_ink 71 = .ok (.lxor, 1) := by decide +kernel
theorem dX8_ink_72 : decode cX8_ink 72 = .ok (.land, 1) := by decide +kernel
theorem dX8_ink_73 : decode cX8_ink 73 = .ok (.lastore, 1) := by decide +kernel
theorem dX8_ink_74 : decode cX8_ink 74 = .ok (.iload 4, 2) := by decide +kernel
theorem dX8_ink_76 : decode cX8_ink 76 = .ok (.ireturn, 1) := by decide +kernel
set_option maxHeartbeats 4000000 in
set_option maxRecDepth 100000 in
theorem bX8_ink {a1 : Int32} {a2 : Int32} {a3 : Int32} {r : Int32} {y_mpi : (Nat → Int64)} (hx : p.tables.exec = Jvm.exec) (hb : c.code = cX8_ink) (hml : c.maxLocals = 5) (hown : s.vm.findClass RX8 = some m.cls) (hts : ∀ w ∈ tw, w.before args s = true) (hK : va_K D vwCl [(cI, .int), (cJ, .long)] s) (hA : ∀ q, s.heap.size ≤ q → A q) (hR : 2 ≤ R.frames ∧ 46 ≤ R.locals ∧ cells ≤ R.cells ∧ slots ≤ R.slots) (hm : mX8_ink mpi mw mt a1 a2 a3 = some (r, y_mpi)) (ls : Array Slot) (hl : lv_has ls 5 [(0, .ref oM), (1, .int a1), (2, .int a2), (3, .int a3)]) (hP : va_P D vwCl (wdM cJ cI oM oM1 oM2 oM3 oM4 oM5 oM6 oM7 oM8 oM9 oM10 oM11 mw mt mrim mjn mhm mpn mbm mgm mpi mst mam mac mro mbe mhi mmi mgr mtr mle) H) (hD : va_D A (wdM cJ cI oM oM1 oM2 oM3 oM4 oM5 oM6 oM7 oM8 oM9 oM10 oM11 mw mt mrim mjn mhm mpn mbm mgm mpi mst mam mac mro mbe mhi mmi mgr mtr mle)) (hS : va_S A s.heap H locs) (K : ∀ (pc : Nat) (ls : Array Slot) (H : Heap) (locs : List Loc), decode cX8_ink pc = .ok (.ireturn, 1) → va_P D vwCl (wdM cJ cI oM oM1 oM2 oM3 oM4 oM5 oM6 oM7 oM8 oM9 oM10 oM11 mw mt mrim mjn mhm mpn mbm mgm y_mpi mst mam mac mro mbe mhi mmi mgr mtr mle) H → va_D A (wdM cJ cI oM oM1 oM2 oM3 oM4 oM5 oM6 oM7 oM8 oM9 oM10 oM11 mw mt mrim mjn mhm mpn mbm mgm y_mpi mst mam mac mro mbe mhi mmi mgr mtr mle) → va_S A s.heap H locs → W p l e R s m args below meth c H locs cells slots Q (F0 m pc ls [.int r])) : W p l e R s m args below meth c H locs cells slots Q (F0 m 0 ls []) := by
  unfold mX8_ink at hm
  refine lv_iload_n hx hb dX8_ink_0 rfl (lv_at hl 1 rfl) ?_
  refine kX8_isPicture ⟨hx, hb, hml, hown, hts⟩ qw_101 hl.1 ⟨Nat.le_trans (by decide) hR.1, Nat.le_trans (by decide) hR.2.1, hR.2.2⟩ (Nat.le_of_ble_eq_true rfl) dX8_ink_1 ?_
  refine lv_if_eq (tgt := 15) hx hb dX8_ink_4 (by decide) (fun c2 => ?_) (fun c2 => ?_)
  · rw [if_pos c2] at hm
    refine lv_iconst (v := (-1 : Int32)) hx hb dX8_ink_15 (by decide) ?_
    have hm := Option.some.inj hm
    have e9 : r = (-1 : Int32) := (congrArg (fun q => q.1) hm).symm
    rw [e9] at K
    have e9 : y_mpi = mpi := (congrArg (fun q => q.2) hm).symm
    rw [e9] at K
    exact K 16 ls _ _ dX8_ink_16 hP hD hS
  · rw [if_neg c2] at hm
    refine lv_aload_n hx hb dX8_ink_7 rfl (lv_at hl 0 rfl) ?_
    refine lv_iload_n hx hb dX8_ink_8 rfl (lv_at hl 2 rfl) ?_
    refine kX8_isCell ⟨hx, hb, hml, hown, hts⟩ qw_102 hP hK hl.1 ⟨Nat.le_trans (by decide) hR.1, Nat.le_trans (by decide) hR.2.1, hR.2.2⟩ (Nat.le_of_ble_eq_true rfl) dX8_ink_9 ?_
    refine lv_if_ne (tgt := 17) hx hb dX8_ink_12 (by decide) (fun c4 => ?_) (fun c4 => ?_)
    · rw [if_neg c4] at hm
      refine lv_aload_n hx hb dX8_ink_17 rfl (lv_at hl 0 rfl) ?_
      refine va_get (D := D) (ci := 8) (v := .ref oM1) (C := RX8) (T := TX8) (N := 19) hx hb hts tnX8 hown hK hP 0 rfl rfl 2 (by decide) (hts _ qw_103) (fun _ h9 => h9) rfl dX8_ink_18 ?_
      refine lv_iload_n hx hb dX8_ink_21 rfl (lv_at hl 1 rfl) ?_
      obtain ⟨g5, hm⟩ := gd_out hm
      refine va_lald hx hb hK hP 1 1 rfl rfl g5 dX8_ink_22 ?_
      refine lv_iload_n hx hb dX8_ink_23 rfl (lv_at hl 2 rfl) ?_
      refine kX8_has ⟨hx, hb, hml, hown, hts⟩ qw_81 hl.1 ⟨Nat.le_trans (by decide) hR.1, Nat.le_trans (by decide) hR.2.1, hR.2.2⟩ (Nat.le_of_ble_eq_true rfl) dX8_ink_24 ?_
      obtain ⟨j7, hi8, hm⟩ := jl_out hm
      have key9 : ∀ (ls : Array Slot), lv_has ls 5 [(0, .ref oM), (1, .int a1), (2, .int a2), (3, .int a3)] → W p l e R s m args below meth c H locs cells slots Q (F0 m 35 ls [.int j7]) := by
        intro ls hl
        refine lv_istore (lv' := [(4, .int j7), (0, .ref oM), (1, .int a1), (2, .int a2), (3, .int a3)]) hx hb dX8_ink_35 hl (by decide) rfl (fun ls hl => ?_)
        refine lv_aload_n hx hb dX8_ink_37 rfl (lv_at hl 1 rfl) ?_
        refine va_get (D := D) (ci := 8) (v := .ref oM1) (C := RX8) (T := TX8) (N := 19) hx hb hts tnX8 hown hK hP 0 rfl rfl 2 (by decide) (hts _ qw_103) (fun _ h9 => h9) rfl dX8_ink_38 ?_
        refine lv_iload_n hx hb dX8_ink_41 rfl (lv_at hl 2 rfl) ?_
        refine lv_iload_n hx hb dX8_ink_42 rfl (lv_at hl 4 rfl) ?_
        obtain ⟨j11, hi12, hm⟩ := jb_out hm
        have key13 : ∀ (ls : Array Slot), lv_has ls 5 [(4, .int j7)] → W p l e R s m args below meth c H locs cells slots Q (F0 m 73 ls [.long j11, .int a1, .ref oM1]) := by
          intro ls hl
          obtain ⟨g17, hm⟩ := gd_out hm
          refine va_last hx hb hK hP hD hS 1 1 rfl rfl g17 dX8_ink_73 (fun H locs hP hD hS => ?_)
          have hP : va_P D vwCl (wdM cJ cI oM oM1 oM2 oM3 oM4 oM5 oM6 oM7 oM8 oM9 oM10 oM11 mw mt mrim mjn mhm mpn mbm mgm (vp_updL mpi a1.toNatClampNeg j11) mst mam mac mro mbe mhi mmi mgr mtr mle) H := hP
          have hD : va_D A (wdM cJ cI oM oM1 oM2 oM3 oM4 oM5 oM6 oM7 oM8 oM9 oM10 oM11 mw mt mrim mjn mhm mpn mbm mgm (vp_updL mpi a1.toNatClampNeg j11) mst mam mac mro mbe mhi mmi mgr mtr mle) := hD
          refine lv_iload hx hb dX8_ink_74 (lv_at hl 0 rfl) ?_
          have hm := Option.some.inj hm
          have e9 : r = j7 := (congrArg (fun q => q.1) hm).symm
          rw [e9] at K
          have e9 : y_mpi = (vp_updL mpi a1.toNatClampNeg j11) := (congrArg (fun q => q.2) hm).symm
          rw [e9] at K
          exact K 76 ls _ _ dX8_ink_76 hP hD hS
        refine lv_if_eq (tgt := 59) hx hb dX8_ink_43 (by decide) (fun c14 => ?_) (fun c14 => ?_)
        · rw [if_pos c14] at hi12
          refine lv_aload_n hx hb dX8_ink_59 rfl (lv_at hl 1 rfl) ?_
          refine va_get (D := D) (ci := 8) (v := .ref oM1) (C := RX8) (T := TX8) (N := 19) hx hb hts tnX8 hown hK hP 0 rfl rfl 2 (by decide) (hts _ qw_103) (fun _ h9 => h9) rfl dX8_ink_60 ?_
          refine lv_iload_n hx hb dX8_ink_63 rfl (lv_at hl 2 rfl) ?_
          obtain ⟨g15, hi12⟩ := gd_out hi12
          refine va_lald hx hb hK hP 1 1 rfl rfl g15 dX8_ink_64 ?_
          refine lv_lconst (v := (1 : Int64)) hx hb dX8_ink_65 (by decide) ?_
          refine lv_iload_n hx hb dX8_ink_66 rfl (lv_at hl 3 rfl) ?_
          refine lv_lshl (v := (jlshl (1 : Int64) a2)) hx hb dX8_ink_67 rfl ?_
          refine lv_ldc2 (v := (-1 : Int64)) hx hb hown (hts _ qw_97) dX8_ink_68 ?_
          refine lv_lxor hx hb dX8_ink_71 ?_
          refine lv_land hx hb dX8_ink_72 ?_
          have hi12 := Option.some.inj hi12
          have e9 : j11 = ((mpi a1.toNatClampNeg) &&& ((jlshl (1 : Int64) a2) ^^^ (-1 : Int64))) := (congrArg (fun q => q) hi12).symm
          rw [e9] at key13
          exact key13 ls (lv_sub hl [0] rfl)
        · rw [if_neg c14] at hi12
          refine lv_aload_n hx hb dX8_ink_46 rfl (lv_at hl 1 rfl) ?_
          refine va_get (D := D) (ci := 8) (v := .ref oM1) (C := RX8) (T := TX8) (N := 19) hx hb hts tnX8 hown hK hP 0 rfl rfl 2 (by decide) (hts _ qw_103) (fun _ h9 => h9) rfl dX8_ink_47 ?_
          refine lv_iload_n hx hb dX8_ink_50 rfl (lv_at hl 2 rfl) ?_
          obtain ⟨g16, hi12⟩ := gd_out hi12
          refine va_lald hx hb hK hP 1 1 rfl rfl g16 dX8_ink_51 ?_
          refine lv_lconst (v := (1 : Int64)) hx hb dX8_ink_52 (by decide) ?_
          refine lv_iload_n hx hb dX8_ink_53 rfl (lv_at hl 3 rfl) ?_
          refine lv_lshl (v := (jlshl (1 : Int64) a2)) hx hb dX8_ink_54 rfl ?_
          refine lv_lor hx hb dX8_ink_55 ?_
          refine lv_goto (tgt := 73) hx hb dX8_ink_56 (by decide) ?_
          have hi12 := Option.some.inj hi12
          have e9 : j11 = ((mpi a1.toNatClampNeg) ||| (jlshl (1 : Int64) a2)) := (congrArg (fun q => q) hi12).symm
          rw [e9] at key13
          exact key13 ls (lv_sub hl [0] rfl)
      refine lv_if_eq (tgt := 34) hx hb dX8_ink_27 (by decide) (fun c10 => ?_) (fun c10 => ?_)
      · rw [if_pos c10] at hi8
        refine lv_iconst (v := (0 : Int32)) hx hb dX8_ink_34 (by decide) ?_
        rw [hi8] at key9
        exact key9 ls (lv_sub hl [0, 1, 2, 3] rfl)
      · rw [if_neg c10] at hi8
        refine lv_iconst (v := (1 : Int32)) hx hb dX8_ink_30 (by decide) ?_
        refine lv_goto (tgt := 35) hx hb dX8_ink_31 (by decide) ?_
        rw [hi8] at key9
        exact key9 ls (lv_sub hl [0, 1, 2, 3] rfl)
    · rw [if_pos c4] at hm
      refine lv_iconst (v := (-1 : Int32)) hx hb dX8_ink_15 (by decide) ?_
      have hm := Option.some.inj hm
      have e9 : r = (-1 : Int32) := (congrArg (fun q => q.1) hm).symm
      rw [e9] at K
      have e9 : y_mpi = mpi := (congrArg (fun q => q.2) hm).symm
      rw [e9] at K
      exact K 16 ls _ _ dX8_ink_16 hP hD hS
set_option maxHeartbeats 4000000 in
set_option maxRecDepth 100000 in
theorem tX8_ink (l : Launch) {D : va_G} (sz : Nat) {a1 : Int32} {a2 : Int32} {a3 : Int32} {r : Int32} {y_mpi : (Nat → Int64)} (hm : mX8_ink mpi mw mt a1 a2 a3 = some (r, y_mpi)) : Met l yX8_ink (.code yX8_ink cX8_ink 5 (some .int) :: tw) ({ frames := 2, cells := 0, slots := 0, locals := 46 } : Room) (wrP D [.ref oM, .int a1, .int a2, .int a3] (wdM cJ cI oM oM1 oM2 oM3 oM4 oM5 oM6 oM7 oM8 oM9 oM10 oM11 mw mt mrim mjn mhm mpn mbm mgm mpi mst mam mac mro mbe mhi mmi mgr mtr mle) [(cI, .int), (cJ, .long)] sz) (va_Qi (fun q (_ : Unit) => q = r) (fun (_ : Unit) (t : State) => va_P D vwCl (wdM cJ cI oM oM1 oM2 oM3 oM4 oM5 oM6 oM7 oM8 oM9 oM10 oM11 mw mt mrim mjn mhm mpn mbm mgm y_mpi mst mam mac mro mbe mhi mmi mgr mtr mle) t.heap ∧ va_K D vwCl [(cI, .int), (cJ, .long)] t ∧ va_D (va_A (wdM cJ cI oM oM1 oM2 oM3 oM4 oM5 oM6 oM7 oM8 oM9 oM10 oM11 mw mt mrim mjn mhm mpn mbm mgm mpi mst mam mac mro mbe mhi mmi mgr mtr mle) sz) (wdM cJ cI oM oM1 oM2 oM3 oM4 oM5 oM6 oM7 oM8 oM9 oM10 oM11 mw mt mrim mjn mhm mpn mbm mgm y_mpi mst mam mac mro mbe mhi mmi mgr mtr mle)) (va_A (wdM cJ cI oM oM1 oM2 oM3 oM4 oM5 oM6 oM7 oM8 oM9 oM10 oM11 mw mt mrim mjn mhm mpn mbm mgm mpi mst mam mac mro mbe mhi mmi mgr mtr mle) sz)) 0 0 (va_A (wdM cJ cI oM oM1 oM2 oM3 oM4 oM5 oM6 oM7 oM8 oM9 oM10 oM11 mw mt mrim mjn mhm mpn mbm mgm mpi mst mam mac mro mbe mhi mmi mgr mtr mle) sz) := by
  refine Met.ofW (cc := cX8_ink) (maxL := 5) (ret := (some .int)) (by decide) rfl ?_
  intro p e s m args below meth c s₁ B hml hv
  obtain ⟨rfl, hsz, hP, hK, hD0⟩ := hv
  have hx := B.exec
  have hb := B.bytes
  have hr := B.returns
  have hts : ∀ w ∈ tw, w.before _ s = true := fun w h => atoms_spec (ws := .code yX8_ink cX8_ink 5 (some .int) :: tw) B.pre w (List.mem_cons_of_mem _ h)
  have hown : s.vm.findClass RX8 = some m.cls := findClass_of_methodNamed B.named
  have hlocks := B.notSynchronized
  subst hsz
  have hD := hD0.self (sz := s.heap.size)
  have hl := lv_entry ([.ref oM, .int a1, .int a2, .int a3]) (n := 5) (Nat.le_of_ble_eq_true rfl)
  rw [lg_entry_eq]
  generalize (lg_sl ([.ref oM, .int a1, .int a2, .int a3]) ++ List.replicate (5 - (lg_sl ([.ref oM, .int a1, .int a2, .int a3])).length) Slot.unset).toArray = ls at hl ⊢
  refine bX8_ink hx hb hml hown hts hK (fun q h => Or.inr h) ⟨Nat.le_of_ble_eq_true rfl, Nat.le_of_ble_eq_true rfl, Nat.zero_le _, Nat.zero_le _⟩ hm ls hl hP hD va_S.rf (fun pc ls H locs hd hP hD hS => ?_)
  exact W.iret hx hb hr (fun t ht hW => ⟨⟨r, (), rfl, rfl, by rw [ht]; exact hP, va_K.moved hW.alike hK, hD⟩, hS.F ht⟩) hS.2.2 hd
set_option maxHeartbeats 4000000 in
set_option maxRecDepth 100000 in
theorem kX8_ink {own : String} {cc : ByteArray} {nL idx pc : Nat} {ls : Array Slot} {rest : List Value} {ws wr : va_W} {a1 : Int32} {a2 : Int32} {a3 : Int32} {r : Int32} {y_mpi : (Nat → Int64)} (fx : CallFix p m c cc nL s args tw own) (hq : Cond.methodLink own idx yX8_ink ∈ tw) (isC isR : List Nat) (hC : isC.map (fun i => ws[i]?) = ((wdM cJ cI oM oM1 oM2 oM3 oM4 oM5 oM6 oM7 oM8 oM9 oM10 oM11 mw mt mrim mjn mhm mpn mbm mgm mpi mst mam mac mro mbe mhi mmi mgr mtr mle) : va_W).map some) (hRr : isR.map (fun i => ws[i]?) = wr.map some) (hnC : va_nd isC = true) (hn : va_nd isR = true) (hdis : ∀ i ∈ isR, i ∉ isC) (hK : va_K D vwCl [(cI, .int), (cJ, .long)] s) (hm : mX8_ink mpi mw mt a1 a2 a3 = some (r, y_mpi)) (hsz : ls.size = nL) (hR : 3 ≤ R.frames ∧ 70 ≤ R.locals ∧ cells ≤ R.cells ∧ slots ≤ R.slots) (hst : (rest.map fun v => v.category).sum ≤ 8) (hd : decode cc pc = .ok (.invokevirtual idx, 3)) (hP : va_P D vwCl ws H) (hD : va_D A ws) (hS : va_S A s.heap H locs) (hA : ∀ q, s.heap.size ≤ q → A q) (kk : ∀ (H : Heap) (locs : List Loc), va_P D vwCl (wr ++ (wdM cJ cI oM oM1 oM2 oM3 oM4 oM5 oM6 oM7 oM8 oM9 oM10 oM11 mw mt mrim mjn mhm mpn mbm mgm y_mpi mst mam mac mro mbe mhi mmi mgr mtr mle)) H → va_D A (wr ++ (wdM cJ cI oM oM1 oM2 oM3 oM4 oM5 oM6 oM7 oM8 oM9 oM10 oM11 mw mt mrim mjn mhm mpn mbm mgm y_mpi mst mam mac mro mbe mhi mmi mgr mtr mle)) → va_S A s.heap H locs → W p l e R s m args below meth c H locs cells slots Q (F0 m (pc + 3) ls (.int r :: rest))) : W p l e R s m args below meth c H locs cells slots Q (F0 m pc ls (.int a3 :: .int a2 :: .int a1 :: .ref oM :: rest)) := by
  have hPc := va_P.subM hP isC hC
  have hDc := hD.sub isC hnC hC
  have hFc := va_free (wc := (wdM cJ cI oM oM1 oM2 oM3 oM4 oM5 oM6 oM7 oM8 oM9 oM10 oM11 mw mt mrim mjn mhm mpn mbm mgm mpi mst mam mac mro mbe mhi mmi mgr mtr mle)) hD hS hA isC hC
  refine va_calli (va_runV (As := [.int a1, .int a2, .int a3]) (rest := rest) fx (tX8_ink l H.size hm) (cwV 3 fx.2.2.2.2 (tw_V hq qw_456 qw_457 qw_53 qw_458) rfl rfl rfl (by decide +kernel) ⟨hR.1, hR.2.1⟩) ⟨wrP_bl, va_recv hK hPc (ci := 8) (q0 := 0) rfl rfl, wrP_ok hPc hK hDc⟩ rfl rfl hsz rfl (lv_room hst) hd ⟨hR.2.2.1, hR.2.2.2⟩) hS (fun q _ h => hFc q h) hFc (fun r9 u t H1 locs ht hvm hw hB hz1 hk1 hS => ?_)
  obtain ⟨hP1, hK1, hD1⟩ := hB
  rw [ht] at hP1
  rw [hw]
  obtain ⟨hP2, hD2⟩ := va_join (wr := wr) (w1 := (wdM cJ cI oM oM1 oM2 oM3 oM4 oM5 oM6 oM7 oM8 oM9 oM10 oM11 mw mt mrim mjn mhm mpn mbm mgm y_mpi mst mam mac mro mbe mhi mmi mgr mtr mle)) hP hD isC isR hC hRr hn hdis hk1 hFc hP1 hD1
  exact kk H1 locs hP2 hD2 hS
-- X8_box
def mX8_box (n : Nat) (mpi : Nat → Int64) (mw : Int32) (mt : Int32) (a1 : Int32) (a2 : Int32) (a3 : Int32) (a4 : Int32) : Option (Int32 × (Nat → Int64)) :=
  (if (mX8_isPicture a1) = 0 then (some ((-1 : Int32), mpi)) else (if (mX8_isCell mw mt a2) = 0 then (some ((-1 : Int32), mpi)) else (if (mX8_isCell mw mt a3) = 0 then (some ((-1 : Int32), mpi)) else gd (¬ mw = 0) (gd (¬ mw = 0) ((if (jrem a3 mw) < (jrem a2 mw) then (some ((-2 : Int32), mpi)) else gd (¬ mw = 0) (gd (¬ mw = 0) ((if (a2 / mw) ≤ (a3 / mw) then jb (mX8_boxOf n mw a2 a3) (fun (r13 : Int64) => jb (if a4 = 0 then gd (ib a1 5) ((some (((mpi a1.toNatClampNeg) &&& (r13 ^^^ (-1 : Int64)))))) else gd (ib a1 5) ((some (((mpi a1.toNatClampNeg) ||| r13))))) (fun (j15 : Int64) => gd (ib a1 5) (gd (ib a1 5) (jb (mX8_many n ((vp_updL mpi a1.toNatClampNeg j15) a1.toNatClampNeg)) (fun (r23 : Int32) => (some (r23, (vp_updL mpi a1.toNatClampNeg j15)))))))) else (some ((-2 : Int32), mpi)))))))))))
theorem dX8_box_0 : decode cX8_box 0 = .ok (.iload_n 1, 1) := by decide +kernel
theorem dX8_box_1 : decode cX8_box 1 = .ok (.invokestatic 71, 3) := by decide +kernel
theorem dX8_box_4 : decode cX8_box 4 = .ok (.ifCond .eq 19, 3) := by decide +kernel
theorem dX8_box_7 : decode cX8_box 7 = .ok (.aload_n 0, 1) := by decide +kernel
theorem dX8_box_8 : decode cX8_box 8 = .ok (.iload_n 2, 1) := by decide +kernel
theorem dX8_box_9 : decode cX8_box 9 = .ok (.invokevirtual 75, 3) := by decide +kernel
theorem dX8_box_12 : decode cX8_box 12 = .ok (.ifCond .eq 11, 3) := by decide +kernel
theorem dX8_box_15 : decode cX8_box 15 = .ok (.aload_n 0, 1) := by decide +kernel
theorem dX8_box_16 : decode cX8_box 16 = .ok (.iload_n 3, 1) := by decide +kernel
theorem dX8_box_17 : decode cX8_box 17 = .ok (.invokevirtual 75, 3) := by decide +kernel
theorem dX8_box_20 : decode cX8_box 20 = .ok (.ifCond .ne 5, 3) := by decide +kernel
theorem dX8_box_23 : decode cX8_box 23 = .ok (.iconst (-1), 1) := by decide +kernel
theorem dX8_box_24 : decode cX8_box 24 = .ok (.ireturn, 1) := by decide +kernel
theorem dX8_box_25 : decode cX8_box 25 = .ok (.iload_n 3, 1) := by decide +kernel
theorem dX8_box_26 : decode cX8_box 26 = .ok (.aload_n 0, 1) := by decide +kernel
theorem dX8_box_27 : decode cX8_box 27 = .ok (.getfield 7, 3) := by decide +kernel
theorem dX8_box_30 : decode cX8_box 30 = .ok (.irem, 1) := by decide +kernel
theorem dX8_box_31 : decode cX8_box 31 = .ok (.iload_n 2, 1) := by decide +kernel
theorem dX8_box_32 : decode cX8_box 32 = .ok (.aload_n 0, 1) := by decide +kernel
theorem dX8_box_33 : decode cX8_box 33 = .ok (.getfield 7, 3) := by decide +kernel
theorem dX8_box_36 : decode cX8_box 36 = .ok (.irem, 1) := by decide +kernel
theorem dX8_box_37 : decode cX8_box 37 = .ok (.if_icmp .lt 18, 3) := by decide +kernel
theorem dX8_box_40 : decode cX8_box 40 = .ok (.iload_n 3, 1) := by decide +kernel
theorem dX8_box_41 : decode cX8_box 41 = .ok (.aload_n 0, 1) := by decide +kernel
theorem dX8_box_42 : decode cX8_box 42 = .ok (.getfield 7, 3) := by decide +kernel
theorem dX8_box_45 : decode cX8_box 45 = .ok (.idiv, 1) := by decide +kernel
theorem dX8_box_46 : decode cX8_box 46 = .ok (.iload_n 2, 1) := by decide +kernel
theorem dX8_box_47 : decode cX8_box 47 = .ok (.aload_n 0, 1) := by decide +kernel
theorem dX8_box_48 : decode cX8_box 48 = .ok (.getfield 7, 3) := by decide +kernel
theorem dX8_box_51 : decode cX8_box 51 = .ok (.idiv, 1) := by decide +kernel
theorem dX8_box_52 : decode cX8_box 52 = .ok (.if_icmp .ge 6, 3) := by decide +kernel
theorem dX8_box_55 : decode cX8_box 55 = .ok (.bipush (-2), 2) := by decide +kernel
theorem dX8_box_57 : decode cX8_box 57 = .ok (.ireturn, 1) := by decide +kernel
theorem dX8_box_58 : decode cX8_box 58 = .ok (.aload_n 0, 1) := by decide +kernel
theorem dX8_box_59 : decode cX8_box 59 = .ok (.iload_n 2, 1) := by decide +kernel
theorem dX8_box_60 : decode cX8_box 60 = .ok (.iload_n 3, 1) := by decide +kernel
theorem dX8_box_61 : decode cX8_box 61 = .ok (.invokevirtual 84, 3) := by decide +kernel
theorem dX8_box_64 : decode cX8_box 64 = .ok (.lstore 5, 2) := by decide +kernel
theorem dX8_box_66 : decode cX8_box 66 = .ok (.aload_n 0, 1) := by decide +kernel
theorem dX8_box_67 : decode cX8_box 67 = .ok (.getfield 16, 3) := by decide +kernel
theorem dX8_box_70 : decode cX8_box 70 = .ok (.iload_n 1, 1) := by decide +kernel
theorem dX8_box_71 : decode cX8_box 71 = .ok (.iload 4, 2) := by decide +kernel
theorem dX8_box_73 : decode cX8_box 73 = .ok (.ifCond .eq 15, 3) := by decide +kernel
theorem dX8_box_76 : decode cX8_box 76 = .ok (.aload_n 0, 1) := by decide +kernel
theorem dX8_box_77 : decode cX8_box 77 = .ok (.getfield 16, 3) := by decide +kernel
theorem dX8_box_80 : decode cX8_box 80 = .ok (.iload_n 1, 1) := by decide +kernel
theorem dX8_box_81 : decode cX8_box 81 = .ok (.laload, 1) := by decide +kernel
theorem dX8_box_82 : decode cX8_box 82 = .ok (.lload 5, 2) := by decide +kernel
theorem dX8_box_84 : decode cX8_box 84 = .ok (.lor, 1) := by decide +kernel
theorem dX8_box_85 : decode cX8_box 85 = .ok (.goto 16, 3) := by decide +kernel
theorem dX8_box_88 : decode cX8_box 88 = .ok (.aload_n 0, 1) := by decide +kernel
theorem dX8_box_89 : decode cX8_box 89 = .ok (.getfield 16, 3) := by decide +kernel
theorem dX8_box_92 : decode cX8_box 92 = .ok (.iload_n 1, 1) := by decide +kernel
theorem dX8_box_93 : decode cX8_box 93 = .ok (.laload, 1) := by decide +kernel
theorem dX8_box_94 : decode cX8_box 94 = .ok (.lload 5, 2) := by decide +kernel
theorem dX8_box_96 : decode cX8_box 96 = .ok (.ldc2_w 82, 3) := by decide +kernel
theorem dX8_box_99 : decode cX8_box 99 = .ok (.lxor, 1) := by decide +kernel
theorem dX8_box_100 : decode cX8_box 100 = .ok (.land, 1) := by decide +kernel
theorem dX8_box_101 : decode cX8_box 101 = .ok (.lastore, 1) := by decide +kernel
theorem dX8_box_102 : decode cX8_box 102 = .ok (.aload_n 0, 1) := by decide +kernel
theorem dX8_box_103 : decode cX8_box 103 = .ok (.getfield 16, 3) := by decide +kernel
theorem dX8_box_106 : decode cX8_box 106 = .ok (.iload_n 1, 1) := by decide +kernel
theorem dX8_box_107 : decode cX8_box 107 = .ok (.laload, 1) := by decide +kernel
theorem dX8_box_108 : decode cX8_box 108 = .ok (.invokestatic 88, 3) := by decide +kernel
theorem dX8_box_111 : decode cX8_box 111 = .ok (.ireturn, 1) := by decide +kernel
set_option maxHeartbeats 4000000 in
set_option maxRecDepth 100000 in
theorem bX8_box {n : Nat} {a1 : Int32} {a2 : Int32} {a3 : Int32} {a4 : Int32} {r : Int32} {y_mpi : (Nat → Int64)} (hx : p.tables.exec = Jvm.exec) (hb : c.code = cX8_box) (hml : c.maxLocals = 7) (hown : s.vm.findClass RX8 = some m.cls) (hts : ∀ w ∈ tw, w.before args s = true) (hK : va_K D vwCl [(cI, .int), (cJ, .long)] s) (hA : ∀ q, s.heap.size ≤ q → A q) (hR : 2 ≤ R.frames ∧ 50 ≤ R.locals ∧ cells ≤ R.cells ∧ slots ≤ R.slots) (hm : mX8_box n mpi mw mt a1 a2 a3 a4 = some (r, y_mpi)) (ls : Array Slot) (hl : lv_has ls 7 [(0, .ref oM), (1, .int a1), (2, .int a2), (3, .int a3), (4, .int a4)]) (hP : va_P D vwCl (wdM cJ cI oM oM1 oM2 oM3 oM4 oM5 oM6 oM7 oM8 oM9 oM10 oM11 mw mt mrim mjn mhm mpn mbm mgm mpi mst mam mac mro mbe mhi mmi mgr mtr mle) H) (hD : va_D A (wdM cJ cI oM oM1 oM2 oM3 oM4 oM5 oM6 oM7 oM8 oM9 oM10 oM11 mw mt mrim mjn mhm mpn mbm mgm mpi mst mam mac mro mbe mhi mmi mgr mtr mle)) (hS : va_S A s.heap H locs) (K : ∀ (pc : Nat) (ls : Array Slot) (H : Heap) (locs : List Loc), decode cX8_box pc = .ok (.ireturn, 1) → va_P D vwCl (wdM cJ cI oM oM1 oM2 oM3 oM4 oM5 oM6 oM7 oM8 oM9 oM10 oM11 mw mt mrim mjn mhm mpn mbm mgm y_mpi mst mam mac mro mbe mhi mmi mgr mtr mle) H → va_D A (wdM cJ cI oM oM1 oM2 oM3 oM4 oM5 oM6 oM7 oM8 oM9 oM10 oM11 mw mt mrim mjn mhm mpn mbm mgm y_mpi mst mam mac mro mbe mhi mmi mgr mtr mle) → va_S A s.heap H locs → W p l e R s m args below meth c H locs cells slots Q (F0 m pc ls [.int r])) : W p l e R s m args below meth c H locs cells slots Q (F0 m 0 ls []) := by
  unfold mX8_box at hm
  refine lv_iload_n hx hb dX8_box_0 rfl (lv_at hl 1 rfl) ?_
  refine kX8_isPicture ⟨hx, hb, hml, hown, hts⟩ qw_101 hl.1 ⟨Nat.le_trans (by decide) hR.1, Nat.le_trans (by decide) hR.2.1, hR.2.2⟩ (Nat.le_of_ble_eq_true rfl) dX8_box_1 ?_
  refine lv_if_eq (tgt := 23) hx hb dX8_box_4 (by decide) (fun c2 => ?_) (fun c2 => ?_)
  · rw [if_pos c2] at hm
    refine lv_iconst (v := (-1 : Int32)) hx hb dX8_box_23 (by decide) ?_
    have hm := Option.some.inj hm
    have e9 : r = (-1 : Int32) := (congrArg (fun q => q.1) hm).symm
    rw [e9] at K
    have e9 : y_mpi = mpi := (congrArg (fun q => q.2) hm).symm
    rw [e9] at K
    exact K 24 ls _ _ dX8_box_24 hP hD hS
  · rw [if_neg c2] at hm
    refine lv_aload_n hx hb dX8_box_7 rfl (lv_at hl 0 rfl) ?_
    refine lv_iload_n hx hb dX8_box_8 rfl (lv_at hl 2 rfl) ?_
    refine kX8_isCell ⟨hx, hb, hml, hown, hts⟩ qw_102 hP hK hl.1 ⟨Nat.le_trans (by decide) hR.1, Nat.le_trans (by decide) hR.2.1, hR.2.2⟩ (Nat.le_of_ble_eq_true rfl) dX8_box_9 ?_
    refine lv_if_eq (tgt := 23) hx hb dX8_box_12 (by decide) (fun c4 => ?_) (fun c4 => ?_)
    · rw [if_pos c4] at hm
      refine lv_iconst (v := (-1 : Int32)) hx hb dX8_box_23 (by decide) ?_
      have hm := Option.some.inj hm
      have e9 : r = (-1 : Int32) := (congrArg (fun q => q.1) hm).symm
      rw [e9] at K
      have e9 : y_mpi = mpi := (congrArg (fun q => q.2) hm).symm
      rw [e9] at K
      exact K 24 ls _ _ dX8_box_24 hP hD hS
    · rw [if_neg c4] at hm
      refine lv_aload_n hx hb dX8_box_15 rfl (lv_at hl 0 rfl) ?_
      refine lv_iload_n hx hb dX8_box_16 rfl (lv_at hl 3 rfl) ?_
      refine kX8_isCell ⟨hx, hb, hml, hown, hts⟩ qw_102 hP hK hl.1 ⟨Nat.le_trans (by decide) hR.1, Nat.le_trans (by decide) hR.2.1, hR.2.2⟩ (Nat.le_of_ble_eq_true rfl) dX8_box_17 ?_
      refine lv_if_ne (tgt := 25) hx hb dX8_box_20 (by decide) (fun c6 => ?_) (fun c6 => ?_)
      · rw [if_neg c6] at hm
        refine lv_iload_n hx hb dX8_box_25 rfl (lv_at hl 3 rfl) ?_
        refine lv_aload_n hx hb dX8_box_26 rfl (lv_at hl 0 rfl) ?_
        refine va_get (D := D) (ci := 8) (v := .int mw) (C := RX8) (T := TX8) (N := 19) hx hb hts tnX8 hown hK hP 0 rfl rfl 0 (by decide) (hts _ qw_55) (fun _ h9 => h9) rfl dX8_box_27 ?_
        obtain ⟨g7, hm⟩ := gd_out hm
        refine lv_irem hx hb dX8_box_30 g7 ?_
        refine lv_iload_n hx hb dX8_box_31 rfl (lv_at hl 2 rfl) ?_
        refine lv_aload_n hx hb dX8_box_32 rfl (lv_at hl 0 rfl) ?_
        refine va_get (D := D) (ci := 8) (v := .int mw) (C := RX8) (T := TX8) (N := 19) hx hb hts tnX8 hown hK hP 0 rfl rfl 0 (by decide) (hts _ qw_55) (fun _ h9 => h9) rfl dX8_box_33 ?_
        obtain ⟨g8, hm⟩ := gd_out hm
        refine lv_irem hx hb dX8_box_36 g8 ?_
        refine lv_icmp_lt (tgt := 55) hx hb dX8_box_37 (by decide) (fun c9 => ?_) (fun c9 => ?_)
        · rw [if_pos c9] at hm
          refine lv_bipush (v := (-2 : Int32)) hx hb dX8_box_55 (by decide) ?_
          have hm := Option.some.inj hm
          have e9 : r = (-2 : Int32) := (congrArg (fun q => q.1) hm).symm
          rw [e9] at K
          have e9 : y_mpi = mpi := (congrArg (fun q => q.2) hm).symm
          rw [e9] at K
          exact K 57 ls _ _ dX8_box_57 hP hD hS
        · rw [if_neg c9] at hm
          refine lv_iload_n hx hb dX8_box_40 rfl (lv_at hl 3 rfl) ?_
          refine lv_aload_n hx hb dX8_box_41 rfl (lv_at hl 0 rfl) ?_
          refine va_get (D := D) (ci := 8) (v := .int mw) (C := RX8) (T := TX8) (N := 19) hx hb hts tnX8 hown hK hP 0 rfl rfl 0 (by decide) (hts _ qw_55) (fun _ h9 => h9) rfl dX8_box_42 ?_
          obtain ⟨g10, hm⟩ := gd_out hm
          refine lv_idiv hx hb dX8_box_45 g10 ?_
          refine lv_iload_n hx hb dX8_box_46 rfl (lv_at hl 2 rfl) ?_
          refine lv_aload_n hx hb dX8_box_47 rfl (lv_at hl 0 rfl) ?_
          refine va_get (D := D) (ci := 8) (v := .int mw) (C := RX8) (T := TX8) (N := 19) hx hb hts tnX8 hown hK hP 0 rfl rfl 0 (by decide) (hts _ qw_55) (fun _ h9 => h9) rfl dX8_box_48 ?_
          obtain ⟨g11, hm⟩ := gd_out hm
          refine lv_idiv hx hb dX8_box_51 g11 ?_
          refine lv_icmp_ge (tgt := 58) hx hb dX8_box_52 (by decide) (fun c12 => ?_) (fun c12 => ?_)
          · rw [if_pos c12] at hm
            refine lv_aload_n hx hb dX8_box_58 rfl (lv_at hl 0 rfl) ?_
            refine lv_iload_n hx hb dX8_box_59 rfl (lv_at hl 2 rfl) ?_
            refine lv_iload_n hx hb dX8_box_60 rfl (lv_at hl 3 rfl) ?_
            obtain ⟨r13, h14, hm⟩ := jb_out hm
            refine kX8_boxOf ⟨hx, hb, hml, hown, hts⟩ qw_171 hP hK h14 hl.1 ⟨Nat.le_trans (by decide) hR.1, Nat.le_trans (by decide) hR.2.1, hR.2.2⟩ (Nat.le_of_ble_eq_true rfl) dX8_box_61 ?_
            refine lv_lstore (lv' := [(5, .long r13), (0, .ref oM), (1, .int a1), (2, .int a2), (3, .int a3), (4, .int a4)]) hx hb dX8_box_64 hl (by decide) rfl (fun ls hl => ?_)
            refine lv_aload_n hx hb dX8_box_66 rfl (lv_at hl 1 rfl) ?_
            refine va_get (D := D) (ci := 8) (v := .ref oM1) (C := RX8) (T := TX8) (N := 19) hx hb hts tnX8 hown hK hP 0 rfl rfl 2 (by decide) (hts _ qw_103) (fun _ h9 => h9) rfl dX8_box_67 ?_
            refine lv_iload_n hx hb dX8_box_70 rfl (lv_at hl 2 rfl) ?_
            refine lv_iload hx hb dX8_box_71 (lv_at hl 5 rfl) ?_
            obtain ⟨j15, hi16, hm⟩ := jb_out hm
            have key17 : ∀ (ls : Array Slot), lv_has ls 7 [(0, .ref oM), (1, .int a1)] → W p l e R s m args below meth c H locs cells slots Q (F0 m 101 ls [.long j15, .int a1, .ref oM1]) := by
              intro ls hl
              obtain ⟨g21, hm⟩ := gd_out hm
              refine va_last hx hb hK hP hD hS 1 1 rfl rfl g21 dX8_box_101 (fun H locs hP hD hS => ?_)
              have hP : va_P D vwCl (wdM cJ cI oM oM1 oM2 oM3 oM4 oM5 oM6 oM7 oM8 oM9 oM10 oM11 mw mt mrim mjn mhm mpn mbm mgm (vp_updL mpi a1.toNatClampNeg j15) mst mam mac mro mbe mhi mmi mgr mtr mle) H := hP
              have hD : va_D A (wdM cJ cI oM oM1 oM2 oM3 oM4 oM5 oM6 oM7 oM8 oM9 oM10 oM11 mw mt mrim mjn mhm mpn mbm mgm (vp_updL mpi a1.toNatClampNeg j15) mst mam mac mro mbe mhi mmi mgr mtr mle) := hD
              refine lv_aload_n hx hb dX8_box_102 rfl (lv_at hl 0 rfl) ?_
              refine va_get (D := D) (ci := 8) (v := .ref oM1) (C := RX8) (T := TX8) (N := 19) hx hb hts tnX8 hown hK hP 0 rfl rfl 2 (by decide) (hts _ qw_103) (fun _ h9 => h9) rfl dX8_box_103 ?_
              refine lv_iload_n hx hb dX8_box_106 rfl (lv_at hl 1 rfl) ?_
              obtain ⟨g22, hm⟩ := gd_out hm
              refine va_lald hx hb hK hP 1 1 rfl rfl g22 dX8_box_107 ?_
              obtain ⟨r23, h24, hm⟩ := jb_out hm
              refine kX8_many ⟨hx, hb, hml, hown, hts⟩ qw_112 h24 hl.1 ⟨Nat.le_trans (by decide) hR.1, Nat.le_trans (by decide) hR.2.1, hR.2.2⟩ (Nat.le_of_ble_eq_true rfl) dX8_box_108 ?_
              have hm := Option.some.inj hm
              have e9 : r = r23 := (congrArg (fun q => q.1) hm).symm
              rw [e9] at K
              have e9 : y_mpi = (vp_updL mpi a1.toNatClampNeg j15) := (congrArg (fun q => q.2) hm).symm
              rw [e9] at K
              exact K 111 ls _ _ dX8_box_111 hP hD hS
            refine lv_if_eq (tgt := 88) hx hb dX8_box_73 (by decide) (fun c18 => ?_) (fun c18 => ?_)
            · rw [if_pos c18] at hi16
              refine lv_aload_n hx hb dX8_box_88 rfl (lv_at hl 1 rfl) ?_
              refine va_get (D := D) (ci := 8) (v := .ref oM1) (C := RX8) (T := TX8) (N := 19) hx hb hts tnX8 hown hK hP 0 rfl rfl 2 (by decide) (hts _ qw_103) (fun _ h9 => h9) rfl dX8_box_89 ?_
              refine lv_iload_n hx hb dX8_box_92 rfl (lv_at hl 2 rfl) ?_
              obtain ⟨g19, hi16⟩ := gd_out hi16
              refine va_lald hx hb hK hP 1 1 rfl rfl g19 dX8_box_93 ?_
              refine lv_lload hx hb dX8_box_94 (lv_at hl 0 rfl) ?_
              refine lv_ldc2 (v := (-1 : Int64)) hx hb hown (hts _ qw_97) dX8_box_96 ?_
              refine lv_lxor hx hb dX8_box_99 ?_
              refine lv_land hx hb dX8_box_100 ?_
              have hi16 := Option.some.inj hi16
              have e9 : j15 = ((mpi a1.toNatClampNeg) &&& (r13 ^^^ (-1 : Int64))) := (congrArg (fun q => q) hi16).symm
              rw [e9] at key17
              exact key17 ls (lv_sub hl [1, 2] rfl)
            · rw [if_neg c18] at hi16
              refine lv_aload_n hx hb dX8_box_76 rfl (lv_at hl 1 rfl) ?_
              refine va_get (D := D) (ci := 8) (v := .ref oM1) (C := RX8) (T := TX8) (N := 19) hx hb hts tnX8 hown hK hP 0 rfl rfl 2 (by decide) (hts _ qw_103) (fun _ h9 => h9) rfl dX8_box_77 ?_
              refine lv_iload_n hx hb dX8_box_80 rfl (lv_at hl 2 rfl) ?_
              obtain ⟨g20, hi16⟩ := gd_out hi16
              refine va_lald hx hb hK hP 1 1 rfl rfl g20 dX8_box_81 ?_
              refine lv_lload hx hb dX8_box_82 (lv_at hl 0 rfl) ?_
              refine lv_lor hx hb dX8_box_84 ?_
              refine lv_goto (tgt := 101) hx hb dX8_box_85 (by decide) ?_
              have hi16 := Option.some.inj hi16
              have e9 : j15 = ((mpi a1.toNatClampNeg) ||| r13) := (congrArg (fun q => q) hi16).symm
              rw [e9] at key17
              exact key17 ls (lv_sub hl [1, 2] rfl)
          · rw [if_neg c12] at hm
            refine lv_bipush (v := (-2 : Int32)) hx hb dX8_box_55 (by decide) ?_
            have hm := Option.some.inj hm
            have e9 : r = (-2 : Int32) := (congrArg (fun q => q.1) hm).symm
            rw [e9] at K
            have e9 : y_mpi = mpi := (congrArg (fun q => q.2) hm).symm
            rw [e9] at K
            exact K 57 ls _ _ dX8_box_57 hP hD hS
      · rw [if_pos c6] at hm
        refine lv_iconst (v := (-1 : Int32)) hx hb dX8_box_23 (by decide) ?_
        have hm := Option.some.inj hm
        have e9 : r = (-1 : Int32) := (congrArg (fun q => q.1) hm).symm
        rw [e9] at K
        have e9 : y_mpi = mpi := (congrArg (fun q => q.2) hm).symm
        rw [e9] at K
        exact K 24 ls _ _ dX8_box_24 hP hD hS
set_option maxHeartbeats 4000000 in
set_option maxRecDepth 100000 in
theorem tX8_box (l : Launch) {D : va_G} (sz : Nat) {n : Nat} {a1 : Int32} {a2 : Int32} {a3 : Int32} {a4 : Int32} {r : Int32} {y_mpi : (Nat → Int64)} (hm : mX8_box n mpi mw mt a1 a2 a3 a4 = some (r, y_mpi)) : Met l yX8_box (.code yX8_box cX8_box 7 (some .int) :: tw) ({ frames := 2, cells := 0, slots := 0, locals := 50 } : Room) (wrP D [.ref oM, .int a1, .int a2, .int a3, .int a4] (wdM cJ cI oM oM1 oM2 oM3 oM4 oM5 oM6 oM7 oM8 oM9 oM10 oM11 mw mt mrim mjn mhm mpn mbm mgm mpi mst mam mac mro mbe mhi mmi mgr mtr mle) [(cI, .int), (cJ, .long)] sz) (va_Qi (fun q (_ : Unit) => q = r) (fun (_ : Unit) (t : State) => va_P D vwCl (wdM cJ cI oM oM1 oM2 oM3 oM4 oM5 oM6 oM7 oM8 oM9 oM10 oM11 mw mt mrim mjn mhm mpn mbm mgm y_mpi mst mam mac mro mbe mhi mmi mgr mtr mle) t.heap ∧ va_K D vwCl [(cI, .int), (cJ, .long)] t ∧ va_D (va_A (wdM cJ cI oM oM1 oM2 oM3 oM4 oM5 oM6 oM7 oM8 oM9 oM10 oM11 mw mt mrim mjn mhm mpn mbm mgm mpi mst mam mac mro mbe mhi mmi mgr mtr mle) sz) (wdM cJ cI oM oM1 oM2 oM3 oM4 oM5 oM6 oM7 oM8 oM9 oM10 oM11 mw mt mrim mjn mhm mpn mbm mgm y_mpi mst mam mac mro mbe mhi mmi mgr mtr mle)) (va_A (wdM cJ cI oM oM1 oM2 oM3 oM4 oM5 oM6 oM7 oM8 oM9 oM10 oM11 mw mt mrim mjn mhm mpn mbm mgm mpi mst mam mac mro mbe mhi mmi mgr mtr mle) sz)) 0 0 (va_A (wdM cJ cI oM oM1 oM2 oM3 oM4 oM5 oM6 oM7 oM8 oM9 oM10 oM11 mw mt mrim mjn mhm mpn mbm mgm mpi mst mam mac mro mbe mhi mmi mgr mtr mle) sz) := by
  refine Met.ofW (cc := cX8_box) (maxL := 7) (ret := (some .int)) (by decide) rfl ?_
  intro p e s m args below meth c s₁ B hml hv
  obtain ⟨rfl, hsz, hP, hK, hD0⟩ := hv
  have hx := B.exec
  have hb := B.bytes
  have hr := B.returns
  have hts : ∀ w ∈ tw, w.before _ s = true := fun w h => atoms_spec (ws := .code yX8_box cX8_box 7 (some .int) :: tw) B.pre w (List.mem_cons_of_mem _ h)
  have hown : s.vm.findClass RX8 = some m.cls := findClass_of_methodNamed B.named
  have hlocks := B.notSynchronized
  subst hsz
  have hD := hD0.self (sz := s.heap.size)
  have hl := lv_entry ([.ref oM, .int a1, .int a2, .int a3, .int a4]) (n := 7) (Nat.le_of_ble_eq_true rfl)
  rw [lg_entry_eq]
  generalize (lg_sl ([.ref oM, .int a1, .int a2, .int a3, .int a4]) ++ List.replicate (7 - (lg_sl ([.ref oM, .int a1, .int a2, .int a3, .int a4])).length) Slot.unset).toArray = ls at hl ⊢
  refine bX8_box hx hb hml hown hts hK (fun q h => Or.inr h) ⟨Nat.le_of_ble_eq_true rfl, Nat.le_of_ble_eq_true rfl, Nat.zero_le _, Nat.zero_le _⟩ hm ls hl hP hD va_S.rf (fun pc ls H locs hd hP hD hS => ?_)
  exact W.iret hx hb hr (fun t ht hW => ⟨⟨r, (), rfl, rfl, by rw [ht]; exact hP, va_K.moved hW.alike hK, hD⟩, hS.F ht⟩) hS.2.2 hd
set_option maxHeartbeats 4000000 in
set_option maxRecDepth 100000 in
theorem kX8_box {own : String} {cc : ByteArray} {nL idx pc : Nat} {ls : Array Slot} {rest : List Value} {ws wr : va_W} {n : Nat} {a1 : Int32} {a2 : Int32} {a3 : Int32} {a4 : Int32} {r : Int32} {y_mpi : (Nat → Int64)} (fx : CallFix p m c cc nL s args tw own) (hq : Cond.methodLink own idx yX8_box ∈ tw) (isC isR : List Nat) (hC : isC.map (fun i => ws[i]?) = ((wdM cJ cI oM oM1 oM2 oM3 oM4 oM5 oM6 oM7 oM8 oM9 oM10 oM11 mw mt mrim mjn mhm mpn mbm mgm mpi mst mam mac mro mbe mhi mmi mgr mtr mle) : va_W).map some) (hRr : isR.map (fun i => ws[i]?) = wr.map some) (hnC : va_nd isC = true) (hn : va_nd isR = true) (hdis : ∀ i ∈ isR, i ∉ isC) (hK : va_K D vwCl [(cI, .int), (cJ, .long)] s) (hm : mX8_box n mpi mw mt a1 a2 a3 a4 = some (r, y_mpi)) (hsz : ls.size = nL) (hR : 3 ≤ R.frames ∧ 76 ≤ R.locals ∧ cells ≤ R.cells ∧ slots ≤ R.slots) (hst : (rest.map fun v => v.category).sum ≤ 8) (hd : decode cc pc = .ok (.invokevirtual idx, 3)) (hP : va_P D vwCl ws H) (hD : va_D A ws) (hS : va_S A s.heap H locs) (hA : ∀ q, s.heap.size ≤ q → A q) (kk : ∀ (H : Heap) (locs : List Loc), va_P D vwCl (wr ++ (wdM cJ cI oM oM1 oM2 oM3 oM4 oM5 oM6 oM7 oM8 oM9 oM10 oM11 mw mt mrim mjn mhm mpn mbm mgm y_mpi mst mam mac mro mbe mhi mmi mgr mtr mle)) H → va_D A (wr ++ (wdM cJ cI oM oM1 oM2 oM3 oM4 oM5 oM6 oM7 oM8 oM9 oM10 oM11 mw mt mrim mjn mhm mpn mbm mgm y_mpi mst mam mac mro mbe mhi mmi mgr mtr mle)) → va_S A s.heap H locs → W p l e R s m args below meth c H locs cells slots Q (F0 m (pc + 3) ls (.int r :: rest))) : W p l e R s m args below meth c H locs cells slots Q (F0 m pc ls (.int a4 :: .int a3 :: .int a2 :: .int a1 :: .ref oM :: rest)) := by
  have hPc := va_P.subM hP isC hC
  have hDc := hD.sub isC hnC hC
  have hFc := va_free (wc := (wdM cJ cI oM oM1 oM2 oM3 oM4 oM5 oM6 oM7 oM8 oM9 oM10 oM11 mw mt mrim mjn mhm mpn mbm mgm mpi mst mam mac mro mbe mhi mmi mgr mtr mle)) hD hS hA isC hC
  refine va_calli (va_runV (As := [.int a1, .int a2, .int a3, .int a4]) (rest := rest) fx (tX8_box l H.size hm) (cwV 4 fx.2.2.2.2 (tw_V hq qw_459 qw_460 qw_53 qw_461) rfl rfl rfl (by decide +kernel) ⟨hR.1, hR.2.1⟩) ⟨wrP_bl, va_recv hK hPc (ci := 8) (q0 := 0) rfl rfl, wrP_ok hPc hK hDc⟩ rfl rfl hsz rfl (lv_room hst) hd ⟨hR.2.2.1, hR.2.2.2⟩) hS (fun q _ h => hFc q h) hFc (fun r9 u t H1 locs ht hvm hw hB hz1 hk1 hS => ?_)
  obtain ⟨hP1, hK1, hD1⟩ := hB
  rw [ht] at hP1
  rw [hw]
  obtain ⟨hP2, hD2⟩ := va_join (wr := wr) (w1 := (wdM cJ cI oM oM1 oM2 oM3 oM4 oM5 oM6 oM7 oM8 oM9 oM10 oM11 mw mt mrim mjn mhm mpn mbm mgm y_mpi mst mam mac mro mbe mhi mmi mgr mtr mle)) hP hD isC isR hC hRr hn hdis hk1 hFc hP1 hD1
  exact kk H1 locs hP2 hD2 hS
-- X8_stamp
def mX8_stamp (mst : Nat → Int32) (a1 : Int32) (a2 : Int32) : Option (Int32 × (Nat → Int32)) :=
  (if (mX8_in ((a1).toInt64) (0 : Int64) (3 : Int64)) = 0 then (some ((-1 : Int32), mst)) else (if (mX8_in ((a2).toInt64) (0 : Int64) (511 : Int64)) = 0 then (some ((-2 : Int32), mst)) else gd (ib a1 4) (gd (ib a1 4) ((some ((mst a1.toNatClampNeg), (upd mst a1.toNatClampNeg a2)))))))
theorem dX8_stamp_0 : decode cX8_stamp 0 = .ok (.iload_n 1, 1) := by decide +kernel
theorem dX8_stamp_1 : decode cX8_stamp 1 = .ok (.i2l, 1) := by decide +kernel
theorem dX8_stamp_2 : decode cX8_stamp 2 = .ok (.lconst 0, 1) := by decide +kernel
theorem dX8_stamp_3 : decode cX8_stamp 3 = .ok (.ldc2_w 92, 3) := by decide +kernel
theorem dX8_stamp_6 : decode cX8_stamp 6 = .ok (.invokestatic 63, 3) := by decide +kernel
theorem dX8_stamp_9 : decode cX8_stamp 9 = .ok (.ifCond .ne 5, 3) := by decide +kernel
theorem dX8_stamp_12 : decode cX8_stamp 12 = .ok (.iconst (-1), 1) := by decide +kernel
theorem dX8_stamp_13 : decode cX8_stamp 13 = .ok (.ireturn, 1) := by decide +kernel
theorem dX8_stamp_14 : decode cX8_stamp 14 = .ok (.iload_n 2, 1) := by decide +kernel
theorem dX8_stamp_15 : decode cX8_stamp 15 = .ok (.i2l, 1) := by decide +kernel
theorem dX8_stamp_16 : decode cX8_stamp 16 = .ok (.lconst 0, 1) := by decide +kernel
theorem dX8_stamp_17 : decode cX8_stamp 17 = .ok (.ldc2_w 94, 3) := by decide +kernel
theorem dX8_stamp_20 : decode cX8_stamp 20 = .ok (.invokestatic 63, 3) := by decide +kernel
theorem dX8_stamp_23 : decode cX8_stamp 23 = .ok (.ifCond .ne 6, 3) := by decide +kernel
theorem dX8_stamp_26 : decode cX8_stamp 26 = .ok (.bipush (-2), 2) := by decide +kernel
theorem dX8_stamp_28 : decode cX8_stamp 28 = .ok (.ireturn, 1) := by decide +kernel
theorem dX8_stamp_29 : decode cX8_stamp 29 = .ok (.aload_n 0, 1) := by decide +kernel
theorem dX8_stamp_30 : decode cX8_stamp 30 = .ok (.getfield 20, 3) := by decide +kernel
theorem dX8_stamp_33 : decode cX8_stamp 33 = .ok (.iload_n 1, 1) := by decide +kernel
theorem dX8_stamp_34 : decode cX8_stamp 34 = .ok (.iaload, 1) := by decide +kernel
theorem dX8_stamp_35 : decode cX8_stamp 35 = .ok (.istore_n 3, 1) := by decide +kernel
theorem dX8_stamp_36 : decode cX8_stamp 36 = .ok (.aload_n 0, 1) := by decide +kernel
theorem dX8_stamp_37 : decode cX8_stamp 37 = .ok (.getfield 20, 3) := by decide +kernel
theorem dX8_stamp_40 : decode cX8_stamp 40 = .ok (.iload_n 1, 1) := by decide +kernel
theorem dX8_stamp_41 : decode cX8_stamp 41 = .ok (.iload_n 2, 1) := by decide +kernel
theorem dX8_stamp_42 : decode cX8_stamp 42 = .ok (.iastore, 1) := by decide +kernel
theorem dX8_stamp_43 : decode cX8_stamp 43 = .ok (.iload_n 3, 1) := by decide +kernel
theorem dX8_stamp_44 : decode cX8_stamp 44 = .ok (.ireturn, 1) := by decide +kernel
set_option maxHeartbeats 4000000 in
set_option maxRecDepth 100000 in
theorem bX8_stamp {a1 : Int32} {a2 : Int32} {r : Int32} {y_mst : (Nat → Int32)} (hx : p.tables.exec = Jvm.exec) (hb : c.code = cX8_stamp) (hml : c.maxLocals = 4) (hown : s.vm.findClass RX8 = some m.cls) (hts : ∀ w ∈ tw, w.before args s = true) (hK : va_K D vwCl [(cI, .int), (cJ, .long)] s) (hA : ∀ q, s.heap.size ≤ q → A q) (hR : 1 ≤ R.frames ∧ 25 ≤ R.locals ∧ cells ≤ R.cells ∧ slots ≤ R.slots) (hm : mX8_stamp mst a1 a2 = some (r, y_mst)) (ls : Array Slot) (hl : lv_has ls 4 [(0, .ref oM), (1, .int a1), (2, .int a2)]) (hP : va_P D vwCl (wdM cJ cI oM oM1 oM2 oM3 oM4 oM5 oM6 oM7 oM8 oM9 oM10 oM11 mw mt mrim mjn mhm mpn mbm mgm mpi mst mam mac mro mbe mhi mmi mgr mtr mle) H) (hD : va_D A (wdM cJ cI oM oM1 oM2 oM3 oM4 oM5 oM6 oM7 oM8 oM9 oM10 oM11 mw mt mrim mjn mhm mpn mbm mgm mpi mst mam mac mro mbe mhi mmi mgr mtr mle)) (hS : va_S A s.heap H locs) (K : ∀ (pc : Nat) (ls : Array Slot) (H : Heap) (locs : List Loc), decode cX8_stamp pc = .ok (.ireturn, 1) → va_P D vwCl (wdM cJ cI oM oM1 oM2 oM3 oM4 oM5 oM6 oM7 oM8 oM9 oM10 oM11 mw mt mrim mjn mhm mpn mbm mgm mpi y_mst mam mac mro mbe mhi mmi mgr mtr mle) H → va_D A (wdM cJ cI oM oM1 oM2 oM3 oM4 oM5 oM6 oM7 oM8 oM9 oM10 oM11 mw mt mrim mjn mhm mpn mbm mgm mpi y_mst mam mac mro mbe mhi mmi mgr mtr mle) → va_S A s.heap H locs → W p l e R s m args below meth c H locs cells slots Q (F0 m pc ls [.int r])) : W p l e R s m args below meth c H locs cells slots Q (F0 m 0 ls []) := by
  unfold mX8_stamp at hm
  refine lv_iload_n hx hb dX8_stamp_0 rfl (lv_at hl 1 rfl) ?_
  refine lv_i2l (v := ((a1).toInt64)) hx hb dX8_stamp_1 rfl ?_
  refine lv_lconst (v := (0 : Int64)) hx hb dX8_stamp_2 (by decide) ?_
  refine lv_ldc2 (v := (3 : Int64)) hx hb hown (hts _ qw_161) dX8_stamp_3 ?_
  refine kX8_in ⟨hx, hb, hml, hown, hts⟩ qw_65 hl.1 ⟨Nat.le_trans (by decide) hR.1, Nat.le_trans (by decide) hR.2.1, hR.2.2⟩ (Nat.le_of_ble_eq_true rfl) dX8_stamp_6 ?_
  refine lv_if_ne (tgt := 14) hx hb dX8_stamp_9 (by decide) (fun c2 => ?_) (fun c2 => ?_)
  · rw [if_neg c2] at hm
    refine lv_iload_n hx hb dX8_stamp_14 rfl (lv_at hl 2 rfl) ?_
    refine lv_i2l (v := ((a2).toInt64)) hx hb dX8_stamp_15 rfl ?_
    refine lv_lconst (v := (0 : Int64)) hx hb dX8_stamp_16 (by decide) ?_
    refine lv_ldc2 (v := (511 : Int64)) hx hb hown (hts _ qw_462) dX8_stamp_17 ?_
    refine kX8_in ⟨hx, hb, hml, hown, hts⟩ qw_65 hl.1 ⟨Nat.le_trans (by decide) hR.1, Nat.le_trans (by decide) hR.2.1, hR.2.2⟩ (Nat.le_of_ble_eq_true rfl) dX8_stamp_20 ?_
    refine lv_if_ne (tgt := 29) hx hb dX8_stamp_23 (by decide) (fun c4 => ?_) (fun c4 => ?_)
    · rw [if_neg c4] at hm
      refine lv_aload_n hx hb dX8_stamp_29 rfl (lv_at hl 0 rfl) ?_
      refine va_get (D := D) (ci := 8) (v := .ref oM2) (C := RX8) (T := TX8) (N := 19) hx hb hts tnX8 hown hK hP 0 rfl rfl 3 (by decide) (hts _ qw_93) (fun _ h9 => h9) rfl dX8_stamp_30 ?_
      refine lv_iload_n hx hb dX8_stamp_33 rfl (lv_at hl 1 rfl) ?_
      obtain ⟨g5, hm⟩ := gd_out hm
      refine va_iald hx hb hK hP 2 0 rfl rfl g5 dX8_stamp_34 ?_
      refine lv_istore_n (lv' := [(3, .int (mst a1.toNatClampNeg)), (0, .ref oM), (1, .int a1), (2, .int a2)]) hx hb dX8_stamp_35 rfl hl (by decide) rfl (fun ls hl => ?_)
      refine lv_aload_n hx hb dX8_stamp_36 rfl (lv_at hl 1 rfl) ?_
      refine va_get (D := D) (ci := 8) (v := .ref oM2) (C := RX8) (T := TX8) (N := 19) hx hb hts tnX8 hown hK hP 0 rfl rfl 3 (by decide) (hts _ qw_93) (fun _ h9 => h9) rfl dX8_stamp_37 ?_
      refine lv_iload_n hx hb dX8_stamp_40 rfl (lv_at hl 2 rfl) ?_
      refine lv_iload_n hx hb dX8_stamp_41 rfl (lv_at hl 3 rfl) ?_
      obtain ⟨g6, hm⟩ := gd_out hm
      refine va_iast hx hb hK hP hD hS 2 0 rfl rfl g6 dX8_stamp_42 (fun H locs hP hD hS => ?_)
      have hP : va_P D vwCl (wdM cJ cI oM oM1 oM2 oM3 oM4 oM5 oM6 oM7 oM8 oM9 oM10 oM11 mw mt mrim mjn mhm mpn mbm mgm mpi (upd mst a1.toNatClampNeg a2) mam mac mro mbe mhi mmi mgr mtr mle) H := hP
      have hD : va_D A (wdM cJ cI oM oM1 oM2 oM3 oM4 oM5 oM6 oM7 oM8 oM9 oM10 oM11 mw mt mrim mjn mhm mpn mbm mgm mpi (upd mst a1.toNatClampNeg a2) mam mac mro mbe mhi mmi mgr mtr mle) := hD
      refine lv_iload_n hx hb dX8_stamp_43 rfl (lv_at hl 0 rfl) ?_
      have hm := Option.some.inj hm
      have e9 : r = (mst a1.toNatClampNeg) := (congrArg (fun q => q.1) hm).symm
      rw [e9] at K
      have e9 : y_mst = (upd mst a1.toNatClampNeg a2) := (congrArg (fun q => q.2) hm).symm
      rw [e9] at K
      exact K 44 ls _ _ dX8_stamp_44 hP hD hS
    · rw [if_pos c4] at hm
      refine lv_bipush (v := (-2 : Int32)) hx hb dX8_stamp_26 (by decide) ?_
      have hm := Option.some.inj hm
      have e9 : r = (-2 : Int32) := (congrArg (fun q => q.1) hm).symm
      rw [e9] at K
      have e9 : y_mst = mst := (congrArg (fun q => q.2) hm).symm
      rw [e9] at K
      exact K 28 ls _ _ dX8_stamp_28 hP hD hS
  · rw [if_pos c2] at hm
    refine lv_iconst (v := (-1 : Int32)) hx hb dX8_stamp_12 (by decide) ?_
    have hm := Option.some.inj hm
    have e9 : r = (-1 : Int32) := (congrArg (fun q => q.1) hm).symm
    rw [e9] at K
    have e9 : y_mst = mst := (congrArg (fun q => q.2) hm).symm
    rw [e9] at K
    exact K 13 ls _ _ dX8_stamp_13 hP hD hS
set_option maxHeartbeats 4000000 in
set_option maxRecDepth 100000 in
theorem tX8_stamp (l : Launch) {D : va_G} (sz : Nat) {a1 : Int32} {a2 : Int32} {r : Int32} {y_mst : (Nat → Int32)} (hm : mX8_stamp mst a1 a2 = some (r, y_mst)) : Met l yX8_stamp (.code yX8_stamp cX8_stamp 4 (some .int) :: tw) ({ frames := 1, cells := 0, slots := 0, locals := 25 } : Room) (wrP D [.ref oM, .int a1, .int a2] (wdM cJ cI oM oM1 oM2 oM3 oM4 oM5 oM6 oM7 oM8 oM9 oM10 oM11 mw mt mrim mjn mhm mpn mbm mgm mpi mst mam mac mro mbe mhi mmi mgr mtr mle) [(cI, .int), (cJ, .long)] sz) (va_Qi (fun q (_ : Unit) => q = r) (fun (_ : Unit) (t : State) => va_P D vwCl (wdM cJ cI oM oM1 oM2 oM3 oM4 oM5 oM6 oM7 oM8 oM9 oM10 oM11 mw mt mrim mjn mhm mpn mbm mgm mpi y_mst mam mac mro mbe mhi mmi mgr mtr mle) t.heap ∧ va_K D vwCl [(cI, .int), (cJ, .long)] t ∧ va_D (va_A (wdM cJ cI oM oM1 oM2 oM3 oM4 oM5 oM6 oM7 oM8 oM9 oM10 oM11 mw mt mrim mjn mhm mpn mbm mgm mpi mst mam mac mro mbe mhi mmi mgr mtr mle) sz) (wdM cJ cI oM oM1 oM2 oM3 oM4 oM5 oM6 oM7 oM8 oM9 oM10 oM11 mw mt mrim mjn mhm mpn mbm mgm mpi y_mst mam mac mro mbe mhi mmi mgr mtr mle)) (va_A (wdM cJ cI oM oM1 oM2 oM3 oM4 oM5 oM6 oM7 oM8 oM9 oM10 oM11 mw mt mrim mjn mhm mpn mbm mgm mpi mst mam mac mro mbe mhi mmi mgr mtr mle) sz)) 0 0 (va_A (wdM cJ cI oM oM1 oM2 oM3 oM4 oM5 oM6 oM7 oM8 oM9 oM10 oM11 mw mt mrim mjn mhm mpn mbm mgm mpi mst mam mac mro mbe mhi mmi mgr mtr mle) sz) := by
  refine Met.ofW (cc := cX8_stamp) (maxL := 4) (ret := (some .int)) (by decide) rfl ?_
  intro p e s m args below meth c s₁ B hml hv
  obtain ⟨rfl, hsz, hP, hK, hD0⟩ := hv
  have hx := B.exec
  have hb := B.bytes
  have hr := B.returns
  have hts : ∀ w ∈ tw, w.before _ s = true := fun w h => atoms_spec (ws := .code yX8_stamp cX8_stamp 4 (some .int) :: tw) B.pre w (List.mem_cons_of_mem _ h)
  have hown : s.vm.findClass RX8 = some m.cls := findClass_of_methodNamed B.named
  have hlocks := B.notSynchronized
  subst hsz
  have hD := hD0.self (sz := s.heap.size)
  have hl := lv_entry ([.ref oM, .int a1, .int a2]) (n := 4) (Nat.le_of_ble_eq_true rfl)
  rw [lg_entry_eq]
  generalize (lg_sl ([.ref oM, .int a1, .int a2]) ++ List.replicate (4 - (lg_sl ([.ref oM, .int a1, .int a2])).length) Slot.unset).toArray = ls at hl ⊢
  refine bX8_stamp hx hb hml hown hts hK (fun q h => Or.inr h) ⟨Nat.le_of_ble_eq_true rfl, Nat.le_of_ble_eq_true rfl, Nat.zero_le _, Nat.zero_le _⟩ hm ls hl hP hD va_S.rf (fun pc ls H locs hd hP hD hS => ?_)
  exact W.iret hx hb hr (fun t ht hW => ⟨⟨r, (), rfl, rfl, by rw [ht]; exact hP, va_K.moved hW.alike hK, hD⟩, hS.F ht⟩) hS.2.2 hd
set_option maxHeartbeats 4000000 in
set_option maxRecDepth 100000 in
theorem kX8_stamp {own : String} {cc : ByteArray} {nL idx pc : Nat} {ls : Array Slot} {rest : List Value} {ws wr : va_W} {a1 : Int32} {a2 : Int32} {r : Int32} {y_mst : (Nat → Int32)} (fx : CallFix p m c cc nL s args tw own) (hq : Cond.methodLink own idx yX8_stamp ∈ tw) (isC isR : List Nat) (hC : isC.map (fun i => ws[i]?) = ((wdM cJ cI oM oM1 oM2 oM3 oM4 oM5 oM6 oM7 oM8 oM9 oM10 oM11 mw mt mrim mjn mhm mpn mbm mgm mpi mst mam mac mro mbe mhi mmi mgr mtr mle) : va_W).map some) (hRr : isR.map (fun i => ws[i]?) = wr.map some) (hnC : va_nd isC = true) (hn : va_nd isR = true) (hdis : ∀ i ∈ isR, i ∉ isC) (hK : va_K D vwCl [(cI, .int), (cJ, .long)] s) (hm : mX8_stamp mst a1 a2 = some (r, y_mst)) (hsz : ls.size = nL) (hR : 2 ≤ R.frames ∧ 48 ≤ R.locals ∧ cells ≤ R.cells ∧ slots ≤ R.slots) (hst : (rest.map fun v => v.category).sum ≤ 8) (hd : decode cc pc = .ok (.invokevirtual idx, 3)) (hP : va_P D vwCl ws H) (hD : va_D A ws) (hS : va_S A s.heap H locs) (hA : ∀ q, s.heap.size ≤ q → A q) (kk : ∀ (H : Heap) (locs : List Loc), va_P D vwCl (wr ++ (wdM cJ cI oM oM1 oM2 oM3 oM4 oM5 oM6 oM7 oM8 oM9 oM10 oM11 mw mt mrim mjn mhm mpn mbm mgm mpi y_mst mam mac mro mbe mhi mmi mgr mtr mle)) H → va_D A (wr ++ (wdM cJ cI oM oM1 oM2 oM3 oM4 oM5 oM6 oM7 oM8 oM9 oM10 oM11 mw mt mrim mjn mhm mpn mbm mgm mpi y_mst mam mac mro mbe mhi mmi mgr mtr mle)) → va_S A s.heap H locs → W p l e R s m args below meth c H locs cells slots Q (F0 m (pc + 3) ls (.int r :: rest))) : W p l e R s m args below meth c H locs cells slots Q (F0 m pc ls (.int a2 :: .int a1 :: .ref oM :: rest)) := by
  have hPc := va_P.subM hP isC hC
  have hDc := hD.sub isC hnC hC
  have hFc := va_free (wc := (wdM cJ cI oM oM1 oM2 oM3 oM4 oM5 oM6 oM7 oM8 oM9 oM10 oM11 mw mt mrim mjn mhm mpn mbm mgm mpi mst mam mac mro mbe mhi mmi mgr mtr mle)) hD hS hA isC hC
  refine va_calli (va_runV (As := [.int a1, .int a2]) (rest := rest) fx (tX8_stamp l H.size hm) (cwV 2 fx.2.2.2.2 (tw_V hq qw_463 qw_464 qw_53 qw_465) rfl rfl rfl (by decide +kernel) ⟨hR.1, hR.2.1⟩) ⟨wrP_bl, va_recv hK hPc (ci := 8) (q0 := 0) rfl rfl, wrP_ok hPc hK hDc⟩ rfl rfl hsz rfl (lv_room hst) hd ⟨hR.2.2.1, hR.2.2.2⟩) hS (fun q _ h => hFc q h) hFc (fun r9 u t H1 locs ht hvm hw hB hz1 hk1 hS => ?_)
  obtain ⟨hP1, hK1, hD1⟩ := hB
  rw [ht] at hP1
  rw [hw]
  obtain ⟨hP2, hD2⟩ := va_join (wr := wr) (w1 := (wdM cJ cI oM oM1 oM2 oM3 oM4 oM5 oM6 oM7 oM8 oM9 oM10 oM11 mw mt mrim mjn mhm mpn mbm mgm mpi y_mst mam mac mro mbe mhi mmi mgr mtr mle)) hP hD isC isR hC hRr hn hdis hk1 hFc hP1 hD1
  exact kk H1 locs hP2 hD2 hS
-- X8_rule
def mX8_rule (mrim : Int32) (mjn : Int32) (a1 : Int32) (a2 : Int32) : Option (Int32 × (Int32) × (Int32)) :=
  (if a1 = 0 then (if (mX8_in ((a2).toInt64) (0 : Int64) (1 : Int64)) = 0 then (if a1 = (1 : Int32) then (if a2 = (4 : Int32) then jl (if a1 = 0 then mrim else mjn) (fun j45 => jl (if a1 = 0 then a2 else mrim) (fun j49 => jl (if a1 = (1 : Int32) then a2 else mjn) (fun j53 => (some (j45, j49, j53))))) else (if a2 = (8 : Int32) then jl (if a1 = 0 then mrim else mjn) (fun j58 => jl (if a1 = 0 then a2 else mrim) (fun j62 => jl (if a1 = (1 : Int32) then a2 else mjn) (fun j66 => (some (j58, j62, j66))))) else (some ((-2 : Int32), mrim, mjn)))) else (some ((-2 : Int32), mrim, mjn))) else jl (if a1 = 0 then mrim else mjn) (fun j31 => jl (if a1 = 0 then a2 else mrim) (fun j35 => jl (if a1 = (1 : Int32) then a2 else mjn) (fun j39 => (some (j31, j35, j39)))))) else (if a1 = (1 : Int32) then (if a2 = (4 : Int32) then jl (if a1 = 0 then mrim else mjn) (fun j4 => jl (if a1 = 0 then a2 else mrim) (fun j8 => jl (if a1 = (1 : Int32) then a2 else mjn) (fun j12 => (some (j4, j8, j12))))) else (if a2 = (8 : Int32) then jl (if a1 = 0 then mrim else mjn) (fun j17 => jl (if a1 = 0 then a2 else mrim) (fun j21 => jl (if a1 = (1 : Int32) then a2 else mjn) (fun j25 => (some (j17, j21, j25))))) else (some ((-2 : Int32), mrim, mjn)))) else (some ((-2 : Int32), mrim, mjn))))
theorem dX8_rule_0 : decode cX8_rule 0 = .ok (.iload_n 1, 1) := by decide +kernel
theorem dX8_rule_1 : decode cX8_rule 1 = .ok (.ifCond .ne 13, 3) := by decide +kernel
theorem dX8_rule_4 : decode cX8_rule 4 = .ok (.iload_n 2, 1) := by decide +kernel
theorem dX8_rule_5 : decode cX8_rule 5 = .ok (.i2l, 1) := by decide +kernel
theorem dX8_rule_6 : decode cX8_rule 6 = .ok (.lconst 0, 1) := by decide +kernel
theorem dX8_rule_7 : decode cX8_rule 7 = .ok (.lconst 1, 1) := by decide +kernel
theorem dX8_rule_8 : decode cX8_rule 8 = .ok (.invokestatic 63, 3) := by decide +kernel
theorem dX8_rule_11 : decode cX8_rule 11 = .ok (.ifCond .ne 22, 3) := by decide +kernel
theorem dX8_rule_14 : decode cX8_rule 14 = .ok (.iload_n 1, 1) := by decide +kernel
theorem dX8_rule_15 : decode cX8_rule 15 = .ok (.iconst 1, 1) := by decide +kernel
theorem dX8_rule_16 : decode cX8_rule 16 = .ok (.if_icmp .ne 14, 3) := by decide +kernel
theorem dX8_rule_19 : decode cX8_rule 19 = .ok (.iload_n 2, 1) := by decide +kernel
theorem dX8_rule_20 : decode cX8_rule 20 = .ok (.iconst 4, 1) := by decide +kernel
theorem dX8_rule_21 : decode cX8_rule 21 = .ok (.if_icmp .eq 12, 3) := by decide +kernel
theorem dX8_rule_24 : decode cX8_rule 24 = .ok (.iload_n 2, 1) := by decide +kernel
theorem dX8_rule_25 : decode cX8_rule 25 = .ok (.bipush 8, 2) := by decide +kernel
theorem dX8_rule_27 : decode cX8_rule 27 = .ok (.if_icmp .eq 6, 3) := by decide +kernel
theorem dX8_rule_30 : decode cX8_rule 30 = .ok (.bipush (-2), 2) := by decide +kernel
theorem dX8_rule_32 : decode cX8_rule 32 = .ok (.ireturn, 1) := by decide +kernel
theorem dX8_rule_33 : decode cX8_rule 33 = .ok (.iload_n 1, 1) := by decide +kernel
theorem dX8_rule_34 : decode cX8_rule 34 = .ok (.ifCond .ne 10, 3) := by decide +kernel
theorem dX8_rule_37 : decode cX8_rule 37 = .ok (.aload_n 0, 1) := by decide +kernel
theorem dX8_rule_38 : decode cX8_rule 38 = .ok (.getfield 24, 3) := by decide +kernel
theorem dX8_rule_41 : decode cX8_rule 41 = .ok (.goto 7, 3) := by decide +kernel
theorem dX8_rule_44 : decode cX8_rule 44 = .ok (.aload_n 0, 1) := by decide +kernel
theorem dX8_rule_45 : decode cX8_rule 45 = .ok (.getfield 27, 3) := by decide +kernel
theorem dX8_rule_48 : decode cX8_rule 48 = .ok (.istore_n 3, 1) := by decide +kernel
theorem dX8_rule_49 : decode cX8_rule 49 = .ok (.aload_n 0, 1) := by decide +kernel
theorem dX8_rule_50 : decode cX8_rule 50 = .ok (.iload_n 1, 1) := by decide +kernel
theorem dX8_rule_51 : decode cX8_rule 51 = .ok (.ifCond .ne 7, 3) := by decide +kernel
theorem dX8_rule_54 : decode cX8_rule 54 = .ok (.iload_n 2, 1) := by decide +kernel
theorem dX8_rule_55 : decode cX8_rule 55 = .ok (.goto 7, 3) := by decide +kernel
theorem dX8_rule_58 : decode cX8_rule 58 = .ok (.aload_n 0, 1) := by decide +kernel
theorem dX8_rule_59 : decode cX8_rule 59 = .ok (.getfield 24, 3) := by decide +kernel
theorem dX8_rule_62 : decode cX8_rule 62 = .ok (.putfield 24, 3) := by decide +kernel
theorem dX8_rule_65 : decode cX8_rule 65 = .ok (.aload_n 0, 1) := by decide +kernel
theorem dX8_rule_66 : decode cX8_rule 66 = .ok (.iload_n 1, 1) := by decide +kernel
theorem dX8_rule_67 : decode cX8_rule 67 = .ok (.iconst 1, 1) := by decide +kernel
theorem dX8_rule_68 : decode cX8_rule 68 = .ok (.if_icmp .ne 7, 3) := by decide +kernel
theorem dX8_rule_71 : decode cX8_rule 71 = .ok (.iload_n 2, 1) := by decide +kernel
theorem dX8_rule_72 : decode cX8_rule 72 = .ok (.goto 7, 3) := by decide +kernel
theorem dX8_rule_75 : decode cX8_rule 75 = .ok (.aload_n 0, 1) := by decide +kernel
theorem dX8_rule_76 : decode cX8_rule 76 = .ok (.getfield 27, 3) := by decide +kernel
theorem dX8_rule_79 : decode cX8_rule 79 = .ok (.putfield 27, 3) := by decide +kernel
theorem dX8_rule_82 : decode cX8_rule 82 = .ok (.iload_n 3, 1) := by decide +kernel
theorem dX8_rule_83 : decode cX8_rule 83 = .ok (.ireturn, 1) := by decide +kernel
set_option maxHeartbeats 4000000 in
set_option maxRecDepth 100000 in
theorem bX8_rule {a1 : Int32} {a2 : Int32} {r : Int32} {y_mrim : (Int32)} {y_mjn : (Int32)} (hx : p.tables.exec = Jvm.exec) (hb : c.code = cX8_rule) (hml : c.maxLocals = 4) (hown : s.vm.findClass RX8 = some m.cls) (hts : ∀ w ∈ tw, w.before args s = true) (hK : va_K D vwCl [(cI, .int), (cJ, .long)] s) (hA : ∀ q, s.heap.size ≤ q → A q) (hR : 1 ≤ R.frames ∧ 25 ≤ R.locals ∧ cells ≤ R.cells ∧ slots ≤ R.slots) (hm : mX8_rule mrim mjn a1 a2 = some (r, y_mrim, y_mjn)) (ls : Array Slot) (hl : lv_has ls 4 [(0, .ref oM), (1, .int a1), (2, .int a2)]) (hP : va_P D vwCl (wdM cJ cI oM oM1 oM2 oM3 oM4 oM5 oM6 oM7 oM8 oM9 oM10 oM11 mw mt mrim mjn mhm mpn mbm mgm mpi mst mam mac mro mbe mhi mmi mgr mtr mle) H) (hD : va_D A (wdM cJ cI oM oM1 oM2 oM3 oM4 oM5 oM6 oM7 oM8 oM9 oM10 oM11 mw mt mrim mjn mhm mpn mbm mgm mpi mst mam mac mro mbe mhi mmi mgr mtr mle)) (hS : va_S A s.heap H locs) (K : ∀ (pc : Nat) (ls : Array Slot) (H : Heap) (locs : List Loc), decode cX8_rule pc = .ok (.ireturn, 1) → va_P D vwCl (wdM cJ cI oM oM1 oM2 oM3 oM4 oM5 oM6 oM7 oM8 oM9 oM10 oM11 mw mt y_mrim y_mjn mhm mpn mbm mgm mpi mst mam mac mro mbe mhi mmi mgr mtr mle) H → va_D A (wdM cJ cI oM oM1 oM2 oM3 oM4 oM5 oM6 oM7 oM8 oM9 oM10 oM11 mw mt y_mrim y_mjn mhm mpn mbm mgm mpi mst mam mac mro mbe mhi mmi mgr mtr mle) → va_S A s.heap H locs → W p l e R s m args below meth c H locs cells slots Q (F0 m pc ls [.int r])) : W p l e R s m args below meth c H locs cells slots Q (F0 m 0 ls []) := by
  unfold mX8_rule at hm
  refine lv_iload_n hx hb dX8_rule_0 rfl (lv_at hl 1 rfl) ?_
  refine lv_if_ne (tgt := 14) hx hb dX8_rule_1 (by decide) (fun c1 => ?_) (fun c1 => ?_)
  · rw [if_neg c1] at hm
    refine lv_iload_n hx hb dX8_rule_14 rfl (lv_at hl 1 rfl) ?_
    refine lv_iconst (v := (1 : Int32)) hx hb dX8_rule_15 (by decide) ?_
    refine lv_icmp_ne (tgt := 30) hx hb dX8_rule_16 (by decide) (fun c2 => ?_) (fun c2 => ?_)
    · rw [if_neg c2] at hm
      refine lv_bipush (v := (-2 : Int32)) hx hb dX8_rule_30 (by decide) ?_
      have hm := Option.some.inj hm
      have e9 : r = (-2 : Int32) := (congrArg (fun q => q.1) hm).symm
      rw [e9] at K
      have e9 : y_mrim = mrim := (congrArg (fun q => q.2.1) hm).symm
      rw [e9] at K
      have e9 : y_mjn = mjn := (congrArg (fun q => q.2.2) hm).symm
      rw [e9] at K
      exact K 32 ls _ _ dX8_rule_32 hP hD hS
    · rw [if_pos c2] at hm
      refine lv_iload_n hx hb dX8_rule_19 rfl (lv_at hl 2 rfl) ?_
      refine lv_iconst (v := (4 : Int32)) hx hb dX8_rule_20 (by decide) ?_
      refine lv_icmp_eq (tgt := 33) hx hb dX8_rule_21 (by decide) (fun c3 => ?_) (fun c3 => ?_)
      · rw [if_pos c3] at hm
        refine lv_iload_n hx hb dX8_rule_33 rfl (lv_at hl 1 rfl) ?_
        obtain ⟨j4, hi5, hm⟩ := jl_out hm
        have key6 : ∀ (ls : Array Slot), lv_has ls 4 [(0, .ref oM), (1, .int a1), (2, .int a2)] → W p l e R s m args below meth c H locs cells slots Q (F0 m 48 ls [.int j4]) := by
          intro ls hl
          refine lv_istore_n (lv' := [(3, .int j4), (0, .ref oM), (1, .int a1), (2, .int a2)]) hx hb dX8_rule_48 rfl hl (by decide) rfl (fun ls hl => ?_)
          refine lv_aload_n hx hb dX8_rule_49 rfl (lv_at hl 1 rfl) ?_
          refine lv_iload_n hx hb dX8_rule_50 rfl (lv_at hl 2 rfl) ?_
          obtain ⟨j8, hi9, hm⟩ := jl_out hm
          have key10 : ∀ (ls : Array Slot), lv_has ls 4 [(3, .int j4), (0, .ref oM), (1, .int a1), (2, .int a2)] → W p l e R s m args below meth c H locs cells slots Q (F0 m 62 ls [.int j8, .ref oM]) := by
            intro ls hl
            refine va_put (D := D) (ci := 8) (v := .int j8) (ty := .int) (C := RX8) (T := TX8) (N := 19) hx hb hts tnX8 tyX8 tyX8_ok nmX8 hown hK hP hD hS 0 rfl rfl 4 (by decide) (hts _ qw_86) (fun _ h9 => h9) rfl (by decide +kernel) rfl rfl (Nat.le_of_ble_eq_true rfl) dX8_rule_62 (fun H locs hP hD hS => ?_)
            have hP : va_P D vwCl (wdM cJ cI oM oM1 oM2 oM3 oM4 oM5 oM6 oM7 oM8 oM9 oM10 oM11 mw mt j8 mjn mhm mpn mbm mgm mpi mst mam mac mro mbe mhi mmi mgr mtr mle) H := hP
            have hD : va_D A (wdM cJ cI oM oM1 oM2 oM3 oM4 oM5 oM6 oM7 oM8 oM9 oM10 oM11 mw mt j8 mjn mhm mpn mbm mgm mpi mst mam mac mro mbe mhi mmi mgr mtr mle) := hD
            refine lv_aload_n hx hb dX8_rule_65 rfl (lv_at hl 1 rfl) ?_
            refine lv_iload_n hx hb dX8_rule_66 rfl (lv_at hl 2 rfl) ?_
            refine lv_iconst (v := (1 : Int32)) hx hb dX8_rule_67 (by decide) ?_
            obtain ⟨j12, hi13, hm⟩ := jl_out hm
            have key14 : ∀ (ls : Array Slot), lv_has ls 4 [(3, .int j4)] → W p l e R s m args below meth c H locs cells slots Q (F0 m 79 ls [.int j12, .ref oM]) := by
              intro ls hl
              refine va_put (D := D) (ci := 8) (v := .int j12) (ty := .int) (C := RX8) (T := TX8) (N := 19) hx hb hts tnX8 tyX8 tyX8_ok nmX8 hown hK hP hD hS 0 rfl rfl 5 (by decide) (hts _ qw_140) (fun _ h9 => h9) rfl (by decide +kernel) rfl rfl (Nat.le_of_ble_eq_true rfl) dX8_rule_79 (fun H locs hP hD hS => ?_)
              have hP : va_P D vwCl (wdM cJ cI oM oM1 oM2 oM3 oM4 oM5 oM6 oM7 oM8 oM9 oM10 oM11 mw mt j8 j12 mhm mpn mbm mgm mpi mst mam mac mro mbe mhi mmi mgr mtr mle) H := hP
              have hD : va_D A (wdM cJ cI oM oM1 oM2 oM3 oM4 oM5 oM6 oM7 oM8 oM9 oM10 oM11 mw mt j8 j12 mhm mpn mbm mgm mpi mst mam mac mro mbe mhi mmi mgr mtr mle) := hD
              refine lv_iload_n hx hb dX8_rule_82 rfl (lv_at hl 0 rfl) ?_
              have hm := Option.some.inj hm
              have e9 : r = j4 := (congrArg (fun q => q.1) hm).symm
              rw [e9] at K
              have e9 : y_mrim = j8 := (congrArg (fun q => q.2.1) hm).symm
              rw [e9] at K
              have e9 : y_mjn = j12 := (congrArg (fun q => q.2.2) hm).symm
              rw [e9] at K
              exact K 83 ls _ _ dX8_rule_83 hP hD hS
            refine lv_icmp_ne (tgt := 75) hx hb dX8_rule_68 (by decide) (fun c15 => ?_) (fun c15 => ?_)
            · rw [if_neg c15] at hi13
              refine lv_aload_n hx hb dX8_rule_75 rfl (lv_at hl 1 rfl) ?_
              refine va_get (D := D) (ci := 8) (v := .int mjn) (C := RX8) (T := TX8) (N := 19) hx hb hts tnX8 hown hK hP 0 rfl rfl 5 (by decide) (hts _ qw_140) (fun _ h9 => h9) rfl dX8_rule_76 ?_
              rw [hi13] at key14
              exact key14 ls (lv_sub hl [0] rfl)
            · rw [if_pos c15] at hi13
              refine lv_iload_n hx hb dX8_rule_71 rfl (lv_at hl 3 rfl) ?_
              refine lv_goto (tgt := 79) hx hb dX8_rule_72 (by decide) ?_
              rw [hi13] at key14
              exact key14 ls (lv_sub hl [0] rfl)
          refine lv_if_ne (tgt := 58) hx hb dX8_rule_51 (by decide) (fun c11 => ?_) (fun c11 => ?_)
          · rw [if_neg c11] at hi9
            refine lv_aload_n hx hb dX8_rule_58 rfl (lv_at hl 1 rfl) ?_
            refine va_get (D := D) (ci := 8) (v := .int mrim) (C := RX8) (T := TX8) (N := 19) hx hb hts tnX8 hown hK hP 0 rfl rfl 4 (by decide) (hts _ qw_86) (fun _ h9 => h9) rfl dX8_rule_59 ?_
            rw [hi9] at key10
            exact key10 ls (lv_sub hl [0, 1, 2, 3] rfl)
          · rw [if_pos c11] at hi9
            refine lv_iload_n hx hb dX8_rule_54 rfl (lv_at hl 3 rfl) ?_
            refine lv_goto (tgt := 62) hx hb dX8_rule_55 (by decide) ?_
            rw [hi9] at key10
            exact key10 ls (lv_sub hl [0, 1, 2, 3] rfl)
        refine lv_if_ne (tgt := 44) hx hb dX8_rule_34 (by decide) (fun c7 => ?_) (fun c7 => ?_)
        · rw [if_neg c7] at hi5
          refine lv_aload_n hx hb dX8_rule_44 rfl (lv_at hl 0 rfl) ?_
          refine va_get (D := D) (ci := 8) (v := .int mjn) (C := RX8) (T := TX8) (N := 19) hx hb hts tnX8 hown hK hP 0 rfl rfl 5 (by decide) (hts _ qw_140) (fun _ h9 => h9) rfl dX8_rule_45 ?_
          rw [hi5] at key6
          exact key6 ls (lv_sub hl [0, 1, 2] rfl)
        · rw [if_pos c7] at hi5
          refine lv_aload_n hx hb dX8_rule_37 rfl (lv_at hl 0 rfl) ?_
          refine va_get (D := D) (ci := 8) (v := .int mrim) (C := RX8) (T := TX8) (N := 19) hx hb hts tnX8 hown hK hP 0 rfl rfl 4 (by decide) (hts _ qw_86) (fun _ h9 => h9) rfl dX8_rule_38 ?_
          refine lv_goto (tgt := 48) hx hb dX8_rule_41 (by decide) ?_
          rw [hi5] at key6
          exact key6 ls (lv_sub hl [0, 1, 2] rfl)
      · rw [if_neg c3] at hm
        refine lv_iload_n hx hb dX8_rule_24 rfl (lv_at hl 2 rfl) ?_
        refine lv_bipush (v := (8 : Int32)) hx hb dX8_rule_25 (by decide) ?_
        refine lv_icmp_eq (tgt := 33) hx hb dX8_rule_27 (by decide) (fun c16 => ?_) (fun c16 => ?_)
        · rw [if_pos c16] at hm
          refine lv_iload_n hx hb dX8_rule_33 rfl (lv_at hl 1 rfl) ?_
          obtain ⟨j17, hi18, hm⟩ := jl_out hm
          have key19 : ∀ (ls : Array Slot), lv_has ls 4 [(0, .ref oM), (1, .int a1), (2, .int a2)] → W p l e R s m args below meth c H locs cells slots Q (F0 m 48 ls [.int j17]) := by
            intro ls hl
            refine lv_istore_n (lv' := [(3, .int j17), (0, .ref oM), (1, .int a1), (2, .int a2)]) hx hb dX8_rule_48 rfl hl (by decide) rfl (fun ls hl => ?_)
            refine lv_aload_n hx hb dX8_rule_49 rfl (lv_at hl 1 rfl) ?_
            refine lv_iload_n hx hb dX8_rule_50 rfl (lv_at hl 2 rfl) ?_
            obtain ⟨j21, hi22, hm⟩ := jl_out hm
            have key23 : ∀ (ls : Array Slot), lv_has ls 4 [(3, .int j17), (0, .ref oM), (1, .int a1), (2, .int a2)] → W p l e R s m args below meth c H locs cells slots Q (F0 m 62 ls [.int j21, .ref oM]) := by
              intro ls hl
              refine va_put (D := D) (ci := 8) (v := .int j21) (ty := .int) (C := RX8) (T := TX8) (N := 19) hx hb hts tnX8 tyX8 tyX8_ok nmX8 hown hK hP hD hS 0 rfl rfl 4 (by decide) (hts _ qw_86) (fun _ h9 => h9) rfl (by decide +kernel) rfl rfl (Nat.le_of_ble_eq_true rfl) dX8_rule_62 (fun H locs hP hD hS => ?_)
              have hP : va_P D vwCl (wdM cJ cI oM oM1 oM2 oM3 oM4 oM5 oM6 oM7 oM8 oM9 oM10 oM11 mw mt j21 mjn mhm mpn mbm mgm mpi mst mam mac mro mbe mhi mmi mgr mtr mle) H := hP
              have hD : va_D A (wdM cJ cI oM oM1 oM2 oM3 oM4 oM5 oM6 oM7 oM8 oM9 oM10 oM11 mw mt j21 mjn mhm mpn mbm mgm mpi mst mam mac mro mbe mhi mmi mgr mtr mle) := hD
              refine lv_aload_n hx hb dX8_rule_65 rfl (lv_at hl 1 rfl) ?_
              refine lv_iload_n hx hb dX8_rule_66 rfl (lv_at hl 2 rfl) ?_
              refine lv_iconst (v := (1 : Int32)) hx hb dX8_rule_67 (by decide) ?_
              obtain ⟨j25, hi26, hm⟩ := jl_out hm
              have key27 : ∀ (ls : Array Slot), lv_has ls 4 [(3, .int j17)] → W p l e R s m args below meth c H locs cells slots Q (F0 m 79 ls [.int j25, .ref oM]) := by
                intro ls hl
                refine va_put (D := D) (ci := 8) (v := .int j25) (ty := .int) (C := RX8) (T := TX8) (N := 19) hx hb hts tnX8 tyX8 tyX8_ok nmX8 hown hK hP hD hS 0 rfl rfl 5 (by decide) (hts _ qw_140) (fun _ h9 => h9) rfl (by decide +kernel) rfl rfl (Nat.le_of_ble_eq_true rfl) dX8_rule_79 (fun H locs hP hD hS => ?_)
                have hP : va_P D vwCl (wdM cJ cI oM oM1 oM2 oM3 oM4 oM5 oM6 oM7 oM8 oM9 oM10 oM11 mw mt j21 j25 mhm mpn mbm mgm mpi mst mam mac mro mbe mhi mmi mgr mtr mle) H := hP
                have hD : va_D A (wdM cJ cI oM oM1 oM2 oM3 oM4 oM5 oM6 oM7 oM8 oM9 oM10 oM11 mw mt j21 j25 mhm mpn mbm mgm mpi mst mam mac mro mbe mhi mmi mgr mtr mle) := hD
                refine lv_iload_n hx hb dX8_rule_82 rfl (lv_at hl 0 rfl) ?_
                have hm := Option.some.inj hm
                have e9 : r = j17 := (congrArg (fun q => q.1) hm).symm
                rw [e9] at K
                have e9 : y_mrim = j21 := (congrArg (fun q => q.2.1) hm).symm
                rw [e9] at K
                have e9 : y_mjn = j25 := (congrArg (fun q => q.2.2) hm).symm
                rw [e9] at K
                exact K 83 ls _ _ dX8_rule_83 hP hD hS
              refine lv_icmp_ne (tgt := 75) hx hb dX8_rule_68 (by decide) (fun c28 => ?_) (fun c28 => ?_)
              · rw [if_neg c28] at hi26
                refine lv_aload_n hx hb dX8_rule_75 rfl (lv_at hl 1 rfl) ?_
                refine va_get (D := D) (ci := 8) (v := .int mjn) (C := RX8) (T := TX8) (N := 19) hx hb hts tnX8 hown hK hP 0 rfl rfl 5 (by decide) (hts _ qw_140) (fun _ h9 => h9) rfl dX8_rule_76 ?_
                rw [hi26] at key27
                exact key27 ls (lv_sub hl [0] rfl)
              · rw [if_pos c28] at hi26
                refine lv_iload_n hx hb dX8_rule_71 rfl (lv_at hl 3 rfl) ?_
                refine lv_goto (tgt := 79) hx hb dX8_rule_72 (by decide) ?_
                rw [hi26] at key27
                exact key27 ls (lv_sub hl [0] rfl)
            refine lv_if_ne (tgt := 58) hx hb dX8_rule_51 (by decide) (fun c24 => ?_) (fun c24 => ?_)
            · rw [if_neg c24] at hi22
              refine lv_aload_n hx hb dX8_rule_58 rfl (lv_at hl 1 rfl) ?_
              refine va_get (D := D) (ci := 8) (v := .int mrim) (C := RX8) (T := TX8) (N := 19) hx hb hts tnX8 hown hK hP 0 rfl rfl 4 (by decide) (hts _ qw_86) (fun _ h9 => h9) rfl dX8_rule_59 ?_
              rw [hi22] at key23
              exact key23 ls (lv_sub hl [0, 1, 2, 3] rfl)
            · rw [if_pos c24] at hi22
              refine lv_iload_n hx hb dX8_rule_54 rfl (lv_at hl 3 rfl) ?_
              refine lv_goto (tgt := 62) hx hb dX8_rule_55 (by decide) ?_
              rw [hi22] at key23
              exact key23 ls (lv_sub hl [0, 1, 2, 3] rfl)
          refine lv_if_ne (tgt := 44) hx hb dX8_rule_34 (by decide) (fun c20 => ?_) (fun c20 => ?_)
          · rw [if_neg c20] at hi18
            refine lv_aload_n hx hb dX8_rule_44 rfl (lv_at hl 0 rfl) ?_
            refine va_get (D := D) (ci := 8) (v := .int mjn) (C := RX8) (T := TX8) (N := 19) hx hb hts tnX8 hown hK hP 0 rfl rfl 5 (by decide) (hts _ qw_140) (fun _ h9 => h9) rfl dX8_rule_45 ?_
            rw [hi18] at key19
            exact key19 ls (lv_sub hl [0, 1, 2] rfl)
          · rw [if_pos c20] at hi18
            refine lv_aload_n hx hb dX8_rule_37 rfl (lv_at hl 0 rfl) ?_
            refine va_get (D := D) (ci := 8) (v := .int mrim) (C := RX8) (T := TX8) (N := 19) hx hb hts tnX8 hown hK hP 0 rfl rfl 4 (by decide) (hts _ qw_86) (fun _ h9 => h9) rfl dX8_rule_38 ?_
            refine lv_goto (tgt := 48) hx hb dX8_rule_41 (by decide) ?_
            rw [hi18] at key19
            exact key19 ls (lv_sub hl [0, 1, 2] rfl)
        · rw [if_neg c16] at hm
          refine lv_bipush (v := (-2 : Int32)) hx hb dX8_rule_30 (by decide) ?_
          have hm := Option.some.inj hm
          have e9 : r = (-2 : Int32) := (congrArg (fun q => q.1) hm).symm
          rw [e9] at K
          have e9 : y_mrim = mrim := (congrArg (fun q => q.2.1) hm).symm
          rw [e9] at K
          have e9 : y_mjn = mjn := (congrArg (fun q => q.2.2) hm).symm
          rw [e9] at K
          exact K 32 ls _ _ dX8_rule_32 hP hD hS
  · rw [if_pos c1] at hm
    refine lv_iload_n hx hb dX8_rule_4 rfl (lv_at hl 2 rfl) ?_
    refine lv_i2l (v := ((a2).toInt64)) hx hb dX8_rule_5 rfl ?_
    refine lv_lconst (v := (0 : Int64)) hx hb dX8_rule_6 (by decide) ?_
    refine lv_lconst (v := (1 : Int64)) hx hb dX8_rule_7 (by decide) ?_
    refine kX8_in ⟨hx, hb, hml, hown, hts⟩ qw_65 hl.1 ⟨Nat.le_trans (by decide) hR.1, Nat.le_trans (by decide) hR.2.1, hR.2.2⟩ (Nat.le_of_ble_eq_true rfl) dX8_rule_8 ?_
    refine lv_if_ne (tgt := 33) hx hb dX8_rule_11 (by decide) (fun c30 => ?_) (fun c30 => ?_)
    · rw [if_neg c30] at hm
      refine lv_iload_n hx hb dX8_rule_33 rfl (lv_at hl 1 rfl) ?_
      obtain ⟨j31, hi32, hm⟩ := jl_out hm
      have key33 : ∀ (ls : Array Slot), lv_has ls 4 [(0, .ref oM), (1, .int a1), (2, .int a2)] → W p l e R s m args below meth c H locs cells slots Q (F0 m 48 ls [.int j31]) := by
        intro ls hl
        refine lv_istore_n (lv' := [(3, .int j31), (0, .ref oM), (1, .int a1), (2, .int a2)]) hx hb dX8_rule_48 rfl hl (by decide) rfl (fun ls hl => ?_)
        refine lv_aload_n hx hb dX8_rule_49 rfl (lv_at hl 1 rfl) ?_
        refine lv_iload_n hx hb dX8_rule_50 rfl (lv_at hl 2 rfl) ?_
        obtain ⟨j35, hi36, hm⟩ := jl_out hm
        have key37 : ∀ (ls : Array Slot), lv_has ls 4 [(3, .int j31), (0, .ref oM), (1, .int a1), (2, .int a2)] → W p l e R s m args below meth c H locs cells slots Q (F0 m 62 ls [.int j35, .ref oM]) := by
          intro ls hl
          refine va_put (D := D) (ci := 8) (v := .int j35) (ty := .int) (C := RX8) (T := TX8) (N := 19) hx hb hts tnX8 tyX8 tyX8_ok nmX8 hown hK hP hD hS 0 rfl rfl 4 (by decide) (hts _ qw_86) (fun _ h9 => h9) rfl (by decide +kernel) rfl rfl (Nat.le_of_ble_eq_true rfl) dX8_rule_62 (fun H locs hP hD hS => ?_)
          have hP : va_P D vwCl (wdM cJ cI oM oM1 oM2 oM3 oM4 oM5 oM6 oM7 oM8 oM9 oM10 oM11 mw mt j35 mjn mhm mpn mbm mgm mpi mst mam mac mro mbe mhi mmi mgr mtr mle) H := hP
          have hD : va_D A (wdM cJ cI oM oM1 oM2 oM3 oM4 oM5 oM6 oM7 oM8 oM9 oM10 oM11 mw mt j35 mjn mhm mpn mbm mgm mpi mst mam mac mro mbe mhi mmi mgr mtr mle) := hD
          refine lv_aload_n hx hb dX8_rule_65 rfl (lv_at hl 1 rfl) ?_
          refine lv_iload_n hx hb dX8_rule_66 rfl (lv_at hl 2 rfl) ?_
          refine lv_iconst (v := (1 : Int32)) hx hb dX8_rule_67 (by decide) ?_
          obtain ⟨j39, hi40, hm⟩ := jl_out hm
          have key41 : ∀ (ls : Array Slot), lv_has ls 4 [(3, .int j31)] → W p l e R s m args below meth c H locs cells slots Q (F0 m 79 ls [.int j39, .ref oM]) := by
            intro ls hl
            refine va_put (D := D) (ci := 8) (v := .int j39) (ty := .int) (C := RX8) (T := TX8) (N := 19) hx hb hts tnX8 tyX8 tyX8_ok nmX8 hown hK hP hD hS 0 rfl rfl 5 (by decide) (hts _ qw_140) (fun _ h9 => h9) rfl (by decide +kernel) rfl rfl (Nat.le_of_ble_eq_true rfl) dX8_rule_79 (fun H locs hP hD hS => ?_)
            have hP : va_P D vwCl (wdM cJ cI oM oM1 oM2 oM3 oM4 oM5 oM6 oM7 oM8 oM9 oM10 oM11 mw mt j35 j39 mhm mpn mbm mgm mpi mst mam mac mro mbe mhi mmi mgr mtr mle) H := hP
            have hD : va_D A (wdM cJ cI oM oM1 oM2 oM3 oM4 oM5 oM6 oM7 oM8 oM9 oM10 oM11 mw mt j35 j39 mhm mpn mbm mgm mpi mst mam mac mro mbe mhi mmi mgr mtr mle) := hD
            refine lv_iload_n hx hb dX8_rule_82 rfl (lv_at hl 0 rfl) ?_
            have hm := Option.some.inj hm
            have e9 : r = j31 := (congrArg (fun q => q.1) hm).symm
            rw [e9] at K
            have e9 : y_mrim = j35 := (congrArg (fun q => q.2.1) hm).symm
            rw [e9] at K
            have e9 : y_mjn = j39 := (congrArg (fun q => q.2.2) hm).symm
            rw [e9] at K
            exact K 83 ls _ _ dX8_rule_83 hP hD hS
          refine lv_icmp_ne (tgt := 75) hx hb dX8_rule_68 (by decide) (fun c42 => ?_) (fun c42 => ?_)
          · rw [if_neg c42] at hi40
            refine lv_aload_n hx hb dX8_rule_75 rfl (lv_at hl 1 rfl) ?_
            refine va_get (D := D) (ci := 8) (v := .int mjn) (C := RX8) (T := TX8) (N := 19) hx hb hts tnX8 hown hK hP 0 rfl rfl 5 (by decide) (hts _ qw_140) (fun _ h9 => h9) rfl dX8_rule_76 ?_
            rw [hi40] at key41
            exact key41 ls (lv_sub hl [0] rfl)
          · rw [if_pos c42] at hi40
            refine lv_iload_n hx hb dX8_rule_71 rfl (lv_at hl 3 rfl) ?_
            refine lv_goto (tgt := 79) hx hb dX8_rule_72 (by decide) ?_
            rw [hi40] at key41
            exact key41 ls (lv_sub hl [0] rfl)
        refine lv_if_ne (tgt := 58) hx hb dX8_rule_51 (by decide) (fun c38 => ?_) (fun c38 => ?_)
        · rw [if_neg c38] at hi36
          refine lv_aload_n hx hb dX8_rule_58 rfl (lv_at hl 1 rfl) ?_
          refine va_get (D := D) (ci := 8) (v := .int mrim) (C := RX8) (T := TX8) (N := 19) hx hb hts tnX8 hown hK hP 0 rfl rfl 4 (by decide) (hts _ qw_86) (fun _ h9 => h9) rfl dX8_rule_59 ?_
          rw [hi36] at key37
          exact key37 ls (lv_sub hl [0, 1, 2, 3] rfl)
        · rw [if_pos c38] at hi36
          refine lv_iload_n hx hb dX8_rule_54 rfl (lv_at hl 3 rfl) ?_
          refine lv_goto (tgt := 62) hx hb dX8_rule_55 (by decide) ?_
          rw [hi36] at key37
          exact key37 ls (lv_sub hl [0, 1, 2, 3] rfl)
      refine lv_if_ne (tgt := 44) hx hb dX8_rule_34 (by decide) (fun c34 => ?_) (fun c34 => ?_)
      · rw [if_neg c34] at hi32
        refine lv_aload_n hx hb dX8_rule_44 rfl (lv_at hl 0 rfl) ?_
        refine va_get (D := D) (ci := 8) (v := .int mjn) (C := RX8) (T := TX8) (N := 19) hx hb hts tnX8 hown hK hP 0 rfl rfl 5 (by decide) (hts _ qw_140) (fun _ h9 => h9) rfl dX8_rule_45 ?_
        rw [hi32] at key33
        exact key33 ls (lv_sub hl [0, 1, 2] rfl)
      · rw [if_pos c34] at hi32
        refine lv_aload_n hx hb dX8_rule_37 rfl (lv_at hl 0 rfl) ?_
        refine va_get (D := D) (ci := 8) (v := .int mrim) (C := RX8) (T := TX8) (N := 19) hx hb hts tnX8 hown hK hP 0 rfl rfl 4 (by decide) (hts _ qw_86) (fun _ h9 => h9) rfl dX8_rule_38 ?_
        refine lv_goto (tgt := 48) hx hb dX8_rule_41 (by decide) ?_
        rw [hi32] at key33
        exact key33 ls (lv_sub hl [0, 1, 2] rfl)
    · rw [if_pos c30] at hm
      refine lv_iload_n hx hb dX8_rule_14 rfl (lv_at hl 1 rfl) ?_
      refine lv_iconst (v := (1 : Int32)) hx hb dX8_rule_15 (by decide) ?_
      refine lv_icmp_ne (tgt := 30) hx hb dX8_rule_16 (by decide) (fun c43 => ?_) (fun c43 => ?_)
      · rw [if_neg c43] at hm
        refine lv_bipush (v := (-2 : Int32)) hx hb dX8_rule_30 (by decide) ?_
        have hm := Option.some.inj hm
        have e9 : r = (-2 : Int32) := (congrArg (fun q => q.1) hm).symm
        rw [e9] at K
        have e9 : y_mrim = mrim := (congrArg (fun q => q.2.1) hm).symm
        rw [e9] at K
        have e9 : y_mjn = mjn := (congrArg (fun q => q.2.2) hm).symm
        rw [e9] at K
        exact K 32 ls _ _ dX8_rule_32 hP hD hS
      · rw [if_pos c43] at hm
        refine lv_iload_n hx hb dX8_rule_19 rfl (lv_at hl 2 rfl) ?_
        refine lv_iconst (v := (4 : Int32)) hx hb dX8_rule_20 (by decide) ?_
        refine lv_icmp_eq (tgt := 33) hx hb dX8_rule_21 (by decide) (fun c44 => ?_) (fun c44 => ?_)
        · rw [if_pos c44] at hm
          refine lv_iload_n hx hb dX8_rule_33 rfl (lv_at hl 1 rfl) ?_
          obtain ⟨j45, hi46, hm⟩ := jl_out hm
          have key47 : ∀ (ls : Array Slot), lv_has ls 4 [(0, .ref oM), (1, .int a1), (2, .int a2)] → W p l e R s m args below meth c H locs cells slots Q (F0 m 48 ls [.int j45]) := by
            intro ls hl
            refine lv_istore_n (lv' := [(3, .int j45), (0, .ref oM), (1, .int a1), (2, .int a2)]) hx hb dX8_rule_48 rfl hl (by decide) rfl (fun ls hl => ?_)
            refine lv_aload_n hx hb dX8_rule_49 rfl (lv_at hl 1 rfl) ?_
            refine lv_iload_n hx hb dX8_rule_50 rfl (lv_at hl 2 rfl) ?_
            obtain ⟨j49, hi50, hm⟩ := jl_out hm
            have key51 : ∀ (ls : Array Slot), lv_has ls 4 [(3, .int j45), (0, .ref oM), (1, .int a1), (2, .int a2)] → W p l e R s m args below meth c H locs cells slots Q (F0 m 62 ls [.int j49, .ref oM]) := by
              intro ls hl
              refine va_put (D := D) (ci := 8) (v := .int j49) (ty := .int) (C := RX8) (T := TX8) (N := 19) hx hb hts tnX8 tyX8 tyX8_ok nmX8 hown hK hP hD hS 0 rfl rfl 4 (by decide) (hts _ qw_86) (fun _ h9 => h9) rfl (by decide +kernel) rfl rfl (Nat.le_of_ble_eq_true rfl) dX8_rule_62 (fun H locs hP hD hS => ?_)
              have hP : va_P D vwCl (wdM cJ cI oM oM1 oM2 oM3 oM4 oM5 oM6 oM7 oM8 oM9 oM10 oM11 mw mt j49 mjn mhm mpn mbm mgm mpi mst mam mac mro mbe mhi mmi mgr mtr mle) H := hP
              have hD : va_D A (wdM cJ cI oM oM1 oM2 oM3 oM4 oM5 oM6 oM7 oM8 oM9 oM10 oM11 mw mt j49 mjn mhm mpn mbm mgm mpi mst mam mac mro mbe mhi mmi mgr mtr mle) := hD
              refine lv_aload_n hx hb dX8_rule_65 rfl (lv_at hl 1 rfl) ?_
              refine lv_iload_n hx hb dX8_rule_66 rfl (lv_at hl 2 rfl) ?_
              refine lv_iconst (v := (1 : Int32)) hx hb dX8_rule_67 (by decide) ?_
              obtain ⟨j53, hi54, hm⟩ := jl_out hm
              have key55 : ∀ (ls : Array Slot), lv_has ls 4 [(3, .int j45)] → W p l e R s m args below meth c H locs cells slots Q (F0 m 79 ls [.int j53, .ref oM]) := by
                intro ls hl
                refine va_put (D := D) (ci := 8) (v := .int j53) (ty := .int) (C := RX8) (T := TX8) (N := 19) hx hb hts tnX8 tyX8 tyX8_ok nmX8 hown hK hP hD hS 0 rfl rfl 5 (by decide) (hts _ qw_140) (fun _ h9 => h9) rfl (by decide +kernel) rfl rfl (Nat.le_of_ble_eq_true rfl) dX8_rule_79 (fun H locs hP hD hS => ?_)
                have hP : va_P D vwCl (wdM cJ cI oM oM1 oM2 oM3 oM4 oM5 oM6 oM7 oM8 oM9 oM10 oM11 mw mt j49 j53 mhm mpn mbm mgm mpi mst mam mac mro mbe mhi mmi mgr mtr mle) H := hP
                have hD : va_D A (wdM cJ cI oM oM1 oM2 oM3 oM4 oM5 oM6 oM7 oM8 oM9 oM10 oM11 mw mt j49 j53 mhm mpn mbm mgm mpi mst mam mac mro mbe mhi mmi mgr mtr mle) := hD
                refine lv_iload_n hx hb dX8_rule_82 rfl (lv_at hl 0 rfl) ?_
                have hm := Option.some.inj hm
                have e9 : r = j45 := (congrArg (fun q => q.1) hm).symm
                rw [e9] at K
                have e9 : y_mrim = j49 := (congrArg (fun q => q.2.1) hm).symm
                rw [e9] at K
                have e9 : y_mjn = j53 := (congrArg (fun q => q.2.2) hm).symm
                rw [e9] at K
                exact K 83 ls _ _ dX8_rule_83 hP hD hS
              refine lv_icmp_ne (tgt := 75) hx hb dX8_rule_68 (by decide) (fun c56 => ?_) (fun c56 => ?_)
              · rw [if_neg c56] at hi54
                refine lv_aload_n hx hb dX8_rule_75 rfl (lv_at hl 1 rfl) ?_
                refine va_get (D := D) (ci := 8) (v := .int mjn) (C := RX8) (T := TX8) (N := 19) hx hb hts tnX8 hown hK hP 0 rfl rfl 5 (by decide) (hts _ qw_140) (fun _ h9 => h9) rfl dX8_rule_76 ?_
                rw [hi54] at key55
                exact key55 ls (lv_sub hl [0] rfl)
              · rw [if_pos c56] at hi54
                refine lv_iload_n hx hb dX8_rule_71 rfl (lv_at hl 3 rfl) ?_
                refine lv_goto (tgt := 79) hx hb dX8_rule_72 (by decide) ?_
                rw [hi54] at key55
                exact key55 ls (lv_sub hl [0] rfl)
            refine lv_if_ne (tgt := 58) hx hb dX8_rule_51 (by decide) (fun c52 => ?_) (fun c52 => ?_)
            · rw [if_neg c52] at hi50
              refine lv_aload_n hx hb dX8_rule_58 rfl (lv_at hl 1 rfl) ?_
              refine va_get (D := D) (ci := 8) (v := .int mrim) (C := RX8) (T := TX8) (N := 19) hx hb hts tnX8 hown hK hP 0 rfl rfl 4 (by decide) (hts _ qw_86) (fun _ h9 => h9) rfl dX8_rule_59 ?_
              rw [hi50] at key51
              exact key51 ls (lv_sub hl [0, 1, 2, 3] rfl)
            · rw [if_pos c52] at hi50
              refine lv_iload_n hx hb dX8_rule_54 rfl (lv_at hl 3 rfl) ?_
              refine lv_goto (tgt := 62) hx hb dX8_rule_55 (by decide) ?_
              rw [hi50] at key51
              exact key51 ls (lv_sub hl [0, 1, 2, 3] rfl)
          refine lv_if_ne (tgt := 44) hx hb dX8_rule_34 (by decide) (fun c48 => ?_) (fun c48 => ?_)
          · rw [if_neg c48] at hi46
            refine lv_aload_n hx hb dX8_rule_44 rfl (lv_at hl 0 rfl) ?_
            refine va_get (D := D) (ci := 8) (v := .int mjn) (C := RX8) (T := TX8) (N := 19) hx hb hts tnX8 hown hK hP 0 rfl rfl 5 (by decide) (hts _ qw_140) (fun _ h9 => h9) rfl dX8_rule_45 ?_
            rw [hi46] at key47
            exact key47 ls (lv_sub hl [0, 1, 2] rfl)
          · rw [if_pos c48] at hi46
            refine lv_aload_n hx hb dX8_rule_37 rfl (lv_at hl 0 rfl) ?_
            refine va_get (D := D) (ci := 8) (v := .int mrim) (C := RX8) (T := TX8) (N := 19) hx hb hts tnX8 hown hK hP 0 rfl rfl 4 (by decide) (hts _ qw_86) (fun _ h9 => h9) rfl dX8_rule_38 ?_
            refine lv_goto (tgt := 48) hx hb dX8_rule_41 (by decide) ?_
            rw [hi46] at key47
            exact key47 ls (lv_sub hl [0, 1, 2] rfl)
        · rw [if_neg c44] at hm
          refine lv_iload_n hx hb dX8_rule_24 rfl (lv_at hl 2 rfl) ?_
          refine lv_bipush (v := (8 : Int32)) hx hb dX8_rule_25 (by decide) ?_
          refine lv_icmp_eq (tgt := 33) hx hb dX8_rule_27 (by decide) (fun c57 => ?_) (fun c57 => ?_)
          · rw [if_pos c57] at hm
            refine lv_iload_n hx hb dX8_rule_33 rfl (lv_at hl 1 rfl) ?_
            obtain ⟨j58, hi59, hm⟩ := jl_out hm
            have key60 : ∀ (ls : Array Slot), lv_has ls 4 [(0, .ref oM), (1, .int a1), (2, .int a2)] → W p l e R s m args below meth c H locs cells slots Q (F0 m 48 ls [.int j58]) := by
              intro ls hl
              refine lv_istore_n (lv' := [(3, .int j58), (0, .ref oM), (1, .int a1), (2, .int a2)]) hx hb dX8_rule_48 rfl hl (by decide) rfl (fun ls hl => ?_)
              refine lv_aload_n hx hb dX8_rule_49 rfl (lv_at hl 1 rfl) ?_
              refine lv_iload_n hx hb dX8_rule_50 rfl (lv_at hl 2 rfl) ?_
              obtain ⟨j62, hi63, hm⟩ := jl_out hm
              have key64 : ∀ (ls : Array Slot), lv_has ls 4 [(3, .int j58), (0, .ref oM), (1, .int a1), (2, .int a2)] → W p l e R s m args below meth c H locs cells slots Q (F0 m 62 ls [.int j62, .ref oM]) := by
                intro ls hl
                refine va_put (D := D) (ci := 8) (v := .int j62) (ty := .int) (C := RX8) (T := TX8) (N := 19) hx hb hts tnX8 tyX8 tyX8_ok nmX8 hown hK hP hD hS 0 rfl rfl 4 (by decide) (hts _ qw_86) (fun _ h9 => h9) rfl (by decide +kernel) rfl rfl (Nat.le_of_ble_eq_true rfl) dX8_rule_62 (fun H locs hP hD hS => ?_)
                have hP : va_P D vwCl (wdM cJ cI oM oM1 oM2 oM3 oM4 oM5 oM6 oM7 oM8 oM9 oM10 oM11 mw mt j62 mjn mhm mpn mbm mgm mpi mst mam mac mro mbe mhi mmi mgr mtr mle) H := hP
                have hD : va_D A (wdM cJ cI oM oM1 oM2 oM3 oM4 oM5 oM6 oM7 oM8 oM9 oM10 oM11 mw mt j62 mjn mhm mpn mbm mgm mpi mst mam mac mro mbe mhi mmi mgr mtr mle) := hD
                refine lv_aload_n hx hb dX8_rule_65 rfl (lv_at hl 1 rfl) ?_
                refine lv_iload_n hx hb dX8_rule_66 rfl (lv_at hl 2 rfl) ?_
                refine lv_iconst (v := (1 : Int32)) hx hb dX8_rule_67 (by decide) ?_
                obtain ⟨j66, hi67, hm⟩ := jl_out hm
                have key68 : ∀ (ls : Array Slot), lv_has ls 4 [(3, .int j58)] → W p l e R s m args below meth c H locs cells slots Q (F0 m 79 ls [.int j66, .ref oM]) := by
                  intro ls hl
                  refine va_put (D := D) (ci := 8) (v := .int j66) (ty := .int) (C := RX8) (T := TX8) (N := 19) hx hb hts tnX8 tyX8 tyX8_ok nmX8 hown hK hP hD hS 0 rfl rfl 5 (by decide) (hts _ qw_140) (fun _ h9 => h9) rfl (by decide +kernel) rfl rfl (Nat.le_of_ble_eq_true rfl) dX8_rule_79 (fun H locs hP hD hS => ?_)
                  have hP : va_P D vwCl (wdM cJ cI oM oM1 oM2 oM3 oM4 oM5 oM6 oM7 oM8 oM9 oM10 oM11 mw mt j62 j66 mhm mpn mbm mgm mpi mst mam mac mro mbe mhi mmi mgr mtr mle) H := hP
                  have hD : va_D A (wdM cJ cI oM oM1 oM2 oM3 oM4 oM5 oM6 oM7 oM8 oM9 oM10 oM11 mw mt j62 j66 mhm mpn mbm mgm mpi mst mam mac mro mbe mhi mmi mgr mtr mle) := hD
                  refine lv_iload_n hx hb dX8_rule_82 rfl (lv_at hl 0 rfl) ?_
                  have hm := Option.some.inj hm
                  have e9 : r = j58 := (congrArg (fun q => q.1) hm).symm
                  rw [e9] at K
                  have e9 : y_mrim = j62 := (congrArg (fun q => q.2.1) hm).symm
                  rw [e9] at K
                  have e9 : y_mjn = j66 := (congrArg (fun q => q.2.2) hm).symm
                  rw [e9] at K
                  exact K 83 ls _ _ dX8_rule_83 hP hD hS
                refine lv_icmp_ne (tgt := 75) hx hb dX8_rule_68 (by decide) (fun c69 => ?_) (fun c69 => ?_)
                · rw [if_neg c69] at hi67
                  refine lv_aload_n hx hb dX8_rule_75 rfl (lv_at hl 1 rfl) ?_
                  refine va_get (D := D) (ci := 8) (v := .int mjn) (C := RX8) (T := TX8) (N := 19) hx hb hts tnX8 hown hK hP 0 rfl rfl 5 (by decide) (hts _ qw_140) (fun _ h9 => h9) rfl dX8_rule_76 ?_
                  rw [hi67] at key68
                  exact key68 ls (lv_sub hl [0] rfl)
                · rw [if_pos c69] at hi67
                  refine lv_iload_n hx hb dX8_rule_71 rfl (lv_at hl 3 rfl) ?_
                  refine lv_goto (tgt := 79) hx hb dX8_rule_72 (by decide) ?_
                  rw [hi67] at key68
                  exact key68 ls (lv_sub hl [0] rfl)
              refine lv_if_ne (tgt := 58) hx hb dX8_rule_51 (by decide) (fun c65 => ?_) (fun c65 => ?_)
              · rw [if_neg c65] at hi63
                refine lv_aload_n hx hb dX8_rule_58 rfl (lv_at hl 1 rfl) ?_
                refine va_get (D := D) (ci := 8) (v := .int mrim) (C := RX8) (T := TX8) (N := 19) hx hb hts tnX8 hown hK hP 0 rfl rfl 4 (by decide) (hts _ qw_86) (fun _ h9 => h9) rfl dX8_rule_59 ?_
                rw [hi63] at key64
                exact key64 ls (lv_sub hl [0, 1, 2, 3] rfl)
              · rw [if_pos c65] at hi63
                refine lv_iload_n hx hb dX8_rule_54 rfl (lv_at hl 3 rfl) ?_
                refine lv_goto (tgt := 62) hx hb dX8_rule_55 (by decide) ?_
                rw [hi63] at key64
                exact key64 ls (lv_sub hl [0, 1, 2, 3] rfl)
            refine lv_if_ne (tgt := 44) hx hb dX8_rule_34 (by decide) (fun c61 => ?_) (fun c61 => ?_)
            · rw [if_neg c61] at hi59
              refine lv_aload_n hx hb dX8_rule_44 rfl (lv_at hl 0 rfl) ?_
              refine va_get (D := D) (ci := 8) (v := .int mjn) (C := RX8) (T := TX8) (N := 19) hx hb hts tnX8 hown hK hP 0 rfl rfl 5 (by decide) (hts _ qw_140) (fun _ h9 => h9) rfl dX8_rule_45 ?_
              rw [hi59] at key60
              exact key60 ls (lv_sub hl [0, 1, 2] rfl)
            · rw [if_pos c61] at hi59
              refine lv_aload_n hx hb dX8_rule_37 rfl (lv_at hl 0 rfl) ?_
              refine va_get (D := D) (ci := 8) (v := .int mrim) (C := RX8) (T := TX8) (N := 19) hx hb hts tnX8 hown hK hP 0 rfl rfl 4 (by decide) (hts _ qw_86) (fun _ h9 => h9) rfl dX8_rule_38 ?_
              refine lv_goto (tgt := 48) hx hb dX8_rule_41 (by decide) ?_
              rw [hi59] at key60
              exact key60 ls (lv_sub hl [0, 1, 2] rfl)
          · rw [if_neg c57] at hm
            refine lv_bipush (v := (-2 : Int32)) hx hb dX8_rule_30 (by decide) ?_
            have hm := Option.some.inj hm
            have e9 : r = (-2 : Int32) := (congrArg (fun q => q.1) hm).symm
            rw [e9] at K
            have e9 : y_mrim = mrim := (congrArg (fun q => q.2.1) hm).symm
            rw [e9] at K
            have e9 : y_mjn = mjn := (congrArg (fun q => q.2.2) hm).symm
            rw [e9] at K
            exact K 32 ls _ _ dX8_rule_32 hP hD hS
set_option maxHeartbeats 4000000 in
set_option maxRecDepth 100000 in
theorem tX8_rule (l : Launch) {D : va_G} (sz : Nat) {a1 : Int32} {a2 : Int32} {r : Int32} {y_mrim : (Int32)} {y_mjn : (Int32)} (hm : mX8_rule mrim mjn a1 a2 = some (r, y_mrim, y_mjn)) : Met l yX8_rule (.code yX8_rule cX8_rule 4 (some .int) :: tw) ({ frames := 1, cells := 0, slots := 0, locals := 25 } : Room) (wrP D [.ref oM, .int a1, .int a2] (wdM cJ cI oM oM1 oM2 oM3 oM4 oM5 oM6 oM7 oM8 oM9 oM10 oM11 mw mt mrim mjn mhm mpn mbm mgm mpi mst mam mac mro mbe mhi mmi mgr mtr mle) [(cI, .int), (cJ, .long)] sz) (va_Qi (fun q (_ : Unit) => q = r) (fun (_ : Unit) (t : State) => va_P D vwCl (wdM cJ cI oM oM1 oM2 oM3 oM4 oM5 oM6 oM7 oM8 oM9 oM10 oM11 mw mt y_mrim y_mjn mhm mpn mbm mgm mpi mst mam mac mro mbe mhi mmi mgr mtr mle) t.heap ∧ va_K D vwCl [(cI, .int), (cJ, .long)] t ∧ va_D (va_A (wdM cJ cI oM oM1 oM2 oM3 oM4 oM5 oM6 oM7 oM8 oM9 oM10 oM11 mw mt mrim mjn mhm mpn mbm mgm mpi mst mam mac mro mbe mhi mmi mgr mtr mle) sz) (wdM cJ cI oM oM1 oM2 oM3 oM4 oM5 oM6 oM7 oM8 oM9 oM10 oM11 mw mt y_mrim y_mjn mhm mpn mbm mgm mpi mst mam mac mro mbe mhi mmi mgr mtr mle)) (va_A (wdM cJ cI oM oM1 oM2 oM3 oM4 oM5 oM6 oM7 oM8 oM9 oM10 oM11 mw mt mrim mjn mhm mpn mbm mgm mpi mst mam mac mro mbe mhi mmi mgr mtr mle) sz)) 0 0 (va_A (wdM cJ cI oM oM1 oM2 oM3 oM4 oM5 oM6 oM7 oM8 oM9 oM10 oM11 mw mt mrim mjn mhm mpn mbm mgm mpi mst mam mac mro mbe mhi mmi mgr mtr mle) sz) := by
  refine Met.ofW (cc := cX8_rule) (maxL := 4) (ret := (some .int)) (by decide) rfl ?_
  intro p e s m args below meth c s₁ B hml hv
  obtain ⟨rfl, hsz, hP, hK, hD0⟩ := hv
  have hx := B.exec
  have hb := B.bytes
  have hr := B.returns
  have hts : ∀ w ∈ tw, w.before _ s = true := fun w h => atoms_spec (ws := .code yX8_rule cX8_rule 4 (some .int) :: tw) B.pre w (List.mem_cons_of_mem _ h)
  have hown : s.vm.findClass RX8 = some m.cls := findClass_of_methodNamed B.named
  have hlocks := B.notSynchronized
  subst hsz
  have hD := hD0.self (sz := s.heap.size)
  have hl := lv_entry ([.ref oM, .int a1, .int a2]) (n := 4) (Nat.le_of_ble_eq_true rfl)
  rw [lg_entry_eq]
  generalize (lg_sl ([.ref oM, .int a1, .int a2]) ++ List.replicate (4 - (lg_sl ([.ref oM, .int a1, .int a2])).length) Slot.unset).toArray = ls at hl ⊢
  refine bX8_rule hx hb hml hown hts hK (fun q h => Or.inr h) ⟨Nat.le_of_ble_eq_true rfl, Nat.le_of_ble_eq_true rfl, Nat.zero_le _, Nat.zero_le _⟩ hm ls hl hP hD va_S.rf (fun pc ls H locs hd hP hD hS => ?_)
  exact W.iret hx hb hr (fun t ht hW => ⟨⟨r, (), rfl, rfl, by rw [ht]; exact hP, va_K.moved hW.alike hK, hD⟩, hS.F ht⟩) hS.2.2 hd
set_option maxHeartbeats 4000000 in
set_option maxRecDepth 100000 in
theorem kX8_rule {own : String} {cc : ByteArray} {nL idx pc : Nat} {ls : Array Slot} {rest : List Value} {ws wr : va_W} {a1 : Int32} {a2 : Int32} {r : Int32} {y_mrim : (Int32)} {y_mjn : (Int32)} (fx : CallFix p m c cc nL s args tw own) (hq : Cond.methodLink own idx yX8_rule ∈ tw) (isC isR : List Nat) (hC : isC.map (fun i => ws[i]?) = ((wdM cJ cI oM oM1 oM2 oM3 oM4 oM5 oM6 oM7 oM8 oM9 oM10 oM11 mw mt mrim mjn mhm mpn mbm mgm mpi mst mam mac mro mbe mhi mmi mgr mtr mle) : va_W).map some) (hRr : isR.map (fun i => ws[i]?) = wr.map some) (hnC : va_nd isC = true) (hn : va_nd isR = true) (hdis : ∀ i ∈ isR, i ∉ isC) (hK : va_K D vwCl [(cI, .int), (cJ, .long)] s) (hm : mX8_rule mrim mjn a1 a2 = some (r, y_mrim, y_mjn)) (hsz : ls.size = nL) (hR : 2 ≤ R.frames ∧ 48 ≤ R.locals ∧ cells ≤ R.cells ∧ slots ≤ R.slots) (hst : (rest.map fun v => v.category).sum ≤ 8) (hd : decode cc pc = .ok (.invokevirtual idx, 3)) (hP : va_P D vwCl ws H) (hD : va_D A ws) (hS : va_S A s.heap H locs) (hA : ∀ q, s.heap.size ≤ q → A q) (kk : ∀ (H : Heap) (locs : List Loc), va_P D vwCl (wr ++ (wdM cJ cI oM oM1 oM2 oM3 oM4 oM5 oM6 oM7 oM8 oM9 oM10 oM11 mw mt y_mrim y_mjn mhm mpn mbm mgm mpi mst mam mac mro mbe mhi mmi mgr mtr mle)) H → va_D A (wr ++ (wdM cJ cI oM oM1 oM2 oM3 oM4 oM5 oM6 oM7 oM8 oM9 oM10 oM11 mw mt y_mrim y_mjn mhm mpn mbm mgm mpi mst mam mac mro mbe mhi mmi mgr mtr mle)) → va_S A s.heap H locs → W p l e R s m args below meth c H locs cells slots Q (F0 m (pc + 3) ls (.int r :: rest))) : W p l e R s m args below meth c H locs cells slots Q (F0 m pc ls (.int a2 :: .int a1 :: .ref oM :: rest)) := by
  have hPc := va_P.subM hP isC hC
  have hDc := hD.sub isC hnC hC
  have hFc := va_free (wc := (wdM cJ cI oM oM1 oM2 oM3 oM4 oM5 oM6 oM7 oM8 oM9 oM10 oM11 mw mt mrim mjn mhm mpn mbm mgm mpi mst mam mac mro mbe mhi mmi mgr mtr mle)) hD hS hA isC hC
  refine va_calli (va_runV (As := [.int a1, .int a2]) (rest := rest) fx (tX8_rule l H.size hm) (cwV 2 fx.2.2.2.2 (tw_V hq qw_466 qw_467 qw_53 qw_468) rfl rfl rfl (by decide +kernel) ⟨hR.1, hR.2.1⟩) ⟨wrP_bl, va_recv hK hPc (ci := 8) (q0 := 0) rfl rfl, wrP_ok hPc hK hDc⟩ rfl rfl hsz rfl (lv_room hst) hd ⟨hR.2.2.1, hR.2.2.2⟩) hS (fun q _ h => hFc q h) hFc (fun r9 u t H1 locs ht hvm hw hB hz1 hk1 hS => ?_)
  obtain ⟨hP1, hK1, hD1⟩ := hB
  rw [ht] at hP1
  rw [hw]
  obtain ⟨hP2, hD2⟩ := va_join (wr := wr) (w1 := (wdM cJ cI oM oM1 oM2 oM3 oM4 oM5 oM6 oM7 oM8 oM9 oM10 oM11 mw mt y_mrim y_mjn mhm mpn mbm mgm mpi mst mam mac mro mbe mhi mmi mgr mtr mle)) hP hD isC isR hC hRr hn hdis hk1 hFc hP1 hD1
  exact kk H1 locs hP2 hD2 hS
-- X8_mix
def mX8_mix (n : Nat) (mpi : Nat → Int64) (a1 : Int32) (a2 : Int32) (a3 : Int32) (a4 : Int32) : Option (Int32 × (Nat → Int64)) :=
  (if (mX8_in ((a1).toInt64) (0 : Int64) (3 : Int64)) = 0 then (some ((-2 : Int32), mpi)) else (if (mX8_isPicture a2) = 0 then (some ((-1 : Int32), mpi)) else (if (3 : Int32) ≤ a1 then (if (mX8_isPicture a4) = 0 then (some ((-1 : Int32), mpi)) else gd (ib a2 5) (jb (if (3 : Int32) ≤ a1 then (some ((0 : Int64))) else gd (ib a3 5) ((some ((mpi a3.toNatClampNeg))))) (fun (j9 : Int64) => jl (if a1 = 0 then ((mpi a2.toNatClampNeg) &&& j9) else (if a1 = (1 : Int32) then ((mpi a2.toNatClampNeg) ||| j9) else ((mpi a2.toNatClampNeg) &&& (j9 ^^^ (-1 : Int64))))) (fun j14 => gd (ib a4 5) (gd (ib a4 5) (jb (mX8_many n ((vp_updL mpi a4.toNatClampNeg j14) a4.toNatClampNeg)) (fun (r21 : Int32) => (some (r21, (vp_updL mpi a4.toNatClampNeg j14)))))))))) else (if (mX8_isPicture a3) = 0 then (some ((-1 : Int32), mpi)) else (if (mX8_isPicture a4) = 0 then (some ((-1 : Int32), mpi)) else gd (ib a2 5) (jb (if (3 : Int32) ≤ a1 then (some ((0 : Int64))) else gd (ib a3 5) ((some ((mpi a3.toNatClampNeg))))) (fun (j28 : Int64) => jl (if a1 = 0 then ((mpi a2.toNatClampNeg) &&& j28) else (if a1 = (1 : Int32) then ((mpi a2.toNatClampNeg) ||| j28) else ((mpi a2.toNatClampNeg) &&& (j28 ^^^ (-1 : Int64))))) (fun j33 => gd (ib a4 5) (gd (ib a4 5) (jb (mX8_many n ((vp_updL mpi a4.toNatClampNeg j33) a4.toNatClampNeg)) (fun (r40 : Int32) => (some (r40, (vp_updL mpi a4.toNatClampNeg j33))))))))))))))
theorem dX8_mix_0 : decode cX8_mix 0 = .ok (.iload_n 1, 1) := by decide +kernel
theorem dX8_mix_1 : decode cX8_mix 1 = .ok (.i2l, 1) := by decide +kernel
theorem dX8_mix_2 : decode cX8_mix 2 = .ok (.lconst 0, 1) := by decide +kernel
theorem dX8_mix_3 : decode cX8_mix 3 = .ok (.ldc2_w 92, 3) := by decide +kernel
theorem dX8_mix_6 : decode cX8_mix 6 = .ok (.invokestatic 63, 3) := by decide +kernel
theorem dX8_mix_9 : decode cX8_mix 9 = .ok (.ifCond .ne 6, 3) := by decide +kernel
theorem dX8_mix_12 : decode cX8_mix 12 = .ok (.bipush (-2), 2) := by decide +kernel
theorem dX8_mix_14 : decode cX8_mix 14 = .ok (.ireturn, 1) := by decide +kernel
theorem dX8_mix_15 : decode cX8_mix 15 = .ok (.iload_n 2, 1) := by decide +kernel
theorem dX8_mix_16 : decode cX8_mix 16 = .ok (.invokestatic 71, 3) := by decide +kernel
theorem dX8_mix_19 : decode cX8_mix 19 = .ok (.ifCond .eq 23, 3) := by decide +kernel
theorem dX8_mix_22 : decode cX8_mix 22 = .ok (.iload_n 1, 1) := by decide +kernel
theorem dX8_mix_23 : decode cX8_mix 23 = .ok (.iconst 3, 1) := by decide +kernel
theorem dX8_mix_24 : decode cX8_mix 24 = .ok (.if_icmp .ge 10, 3) := by decide +kernel
theorem dX8_mix_27 : decode cX8_mix 27 = .ok (.iload_n 3, 1) := by decide +kernel
theorem dX8_mix_28 : decode cX8_mix 28 = .ok (.invokestatic 71, 3) := by decide +kernel
theorem dX8_mix_31 : decode cX8_mix 31 = .ok (.ifCond .eq 11, 3) := by decide +kernel
theorem dX8_mix_34 : decode cX8_mix 34 = .ok (.iload 4, 2) := by decide +kernel
theorem dX8_mix_36 : decode cX8_mix 36 = .ok (.invokestatic 71, 3) := by decide +kernel
theorem dX8_mix_39 : decode cX8_mix 39 = .ok (.ifCond .ne 5, 3) := by decide +kernel
theorem dX8_mix_42 : decode cX8_mix 42 = .ok (.iconst (-1), 1) := by decide +kernel
theorem dX8_mix_43 : decode cX8_mix 43 = .ok (.ireturn, 1) := by decide +kernel
theorem dX8_mix_44 : decode cX8_mix 44 = .ok (.aload_n 0, 1) := by decide +kernel
theorem dX8_mix_45 : decode cX8_mix 45 = .ok (.getfield 16, 3) := by decide +kernel
theorem dX8_mix_48 : decode cX8_mix 48 = .ok (.iload_n 2, 1) := by decide +kernel
theorem dX8_mix_49 : decode cX8_mix 49 = .ok (.laload, 1) := by decide +kernel
theorem dX8_mix_50 : decode cX8_mix 50 = .ok (.lstore 5, 2) := by decide +kernel
theorem dX8_mix_52 : decode cX8_mix 52 = .ok (.iload_n 1, 1) := by decide +kernel
theorem dX8_mix_53 : decode cX8_mix 53 = .ok (.iconst 3, 1) := by decide +kernel
theorem dX8_mix_54 : decode cX8_mix 54 = .ok (.if_icmp .ge 12, 3) := by decide +kernel
theorem dX8_mix_57 : decode cX8_mix 57 = .ok (.aload_n 0, 1) := by decide +kernel
theorem dX8_mix_58 : decode cX8_mix 58 = .ok (.getfield 16, 3) := by decide +kernel
theorem dX8_mix_61 : decode cX8_mix 61 = .ok (.iload_n 3, 1) := by decide +kernel
theorem dX8_mix_62 : decode cX8_mix 62 = .ok (.laload, 1) := by decide +kernel
theorem dX8_mix_63 : decode cX8_mix 63 = .ok (.goto 4, 3) := by decide +kernel
theorem dX8_mix_66 : decode cX8_mix 66 = .ok (.lconst 0, 1) := by decide +kernel
theorem dX8_mix_67 : decode cX8_mix 67 = .ok (.lstore 7, 2) := by decide +kernel
theorem dX8_mix_69 : decode cX8_mix 69 = .ok (.aload_n 0, 1) := by decide +kernel
theorem dX8_mix_70 : decode cX8_mix 70 = .ok (.getfield 16, 3) := by decide +kernel
theorem dX8_mix_73 : decode cX8_mix 73 = .ok (.iload 4, 2) := by decide +kernel
theorem dX8_mix_75 : decode cX8_mix 75 = .ok (.iload_n 1, 1) := by decide +kernel
theorem dX8_mix_76 : decode cX8_mix 76 = .ok (.ifCond .ne 11, 3) := by decide +kernel
theorem dX8_mix_79 : decode cX8_mix 79 = .ok (.lload 5, 2) := by decide +kernel
theorem dX8_mix_81 : decode cX8_mix 81 = .ok (.lload 7, 2) := by decide +kernel
theorem dX8_mix_83 : decode cX8_mix 83 = .ok (.land, 1) := by decide +kernel
theorem dX8_mix_84 : decode cX8_mix 84 = .ok (.goto 25, 3) := by decide +kernel
theorem dX8_mix_87 : decode cX8_mix 87 = .ok (.iload_n 1, 1) := by decide +kernel
theorem dX8_mix_88 : decode cX8_mix 88 = .ok (.iconst 1, 1) := by decide +kernel
theorem dX8_mix_89 : decode cX8_mix 89 = .ok (.if_icmp .ne 11, 3) := by decide +kernel
theorem dX8_mix_92 : decode cX8_mix 92 = .ok (.lload 5, 2) := by decide +kernel
theorem dX8_mix_94 : decode cX8_mix 94 = .ok (.lload 7, 2) := by decide +kernel
theorem dX8_mix_96 : decode cX8_mix 96 = .ok (.lor, 1) := by decide +kernel
theorem dX8_mix_97 : decode cX8_mix 97 = .ok (.goto 12, 3) := by decide +kernel
theorem dX8_mix_100 : decode cX8_mix 100 = .ok (.lload 5, 2) := by decide +kernel
theorem dX8_mix_102 : decode cX8_mix 102 = .ok (.lload 7, 2) := by decide +kernel
theorem dX8_mix_104 : decode cX8_mix 104 = .ok (.ldc2_w 82, 3) := by decide +kernel
theorem dX8_mix_107 : decode cX8_mix 107 = .ok (.lxor, 1) := by decide +kernel
theorem dX8_mix_108 : decode cX8_mix 108 = .ok (.land, 1) := by decide +kernel
theorem dX8_mix_109 : decode cX8_mix 109 = .ok (.lastore, 1) := by decide +kernel
theorem dX8_mix_110 : decode cX8_mix 110 = .ok (.aload_n 0, 1) := by decide +kernel
theorem dX8_mix_111 : decode cX8_mix 111 = .ok (.getfield 16, 3) := by decide +kernel
theorem dX8_mix_114 : decode cX8_mix 114 = .ok (.iload 4, 2) := by decide +kernel
theorem dX8_mix_116 : decode cX8_mix 116 = .ok (.laload, 1) := by decide +kernel
theorem dX8_mix_117 : decode cX8_mix 117 = .ok (.invokestatic 88, 3) := by decide +kernel
theorem dX8_mix_120 : decode cX8_mix 120 = .ok (.ireturn, 1) := by decide +kernel
set_option maxHeartbeats 4000000 in
set_option maxRecDepth 100000 in
theorem bX8_mix {n : Nat} {a1 : Int32} {a2 : Int32} {a3 : Int32} {a4 : Int32} {r : Int32} {y_mpi : (Nat → Int64)} (hx : p.tables.exec = Jvm.exec) (hb : c.code = cX8_mix) (hml : c.maxLocals = 9) (hown : s.vm.findClass RX8 = some m.cls) (hts : ∀ w ∈ tw, w.before args s = true) (hK : va_K D vwCl [(cI, .int), (cJ, .long)] s) (hA : ∀ q, s.heap.size ≤ q → A q) (hR : 2 ≤ R.frames ∧ 45 ≤ R.locals ∧ cells ≤ R.cells ∧ slots ≤ R.slots) (hm : mX8_mix n mpi a1 a2 a3 a4 = some (r, y_mpi)) (ls : Array Slot) (hl : lv_has ls 9 [(0, .ref oM), (1, .int a1), (2, .int a2), (3, .int a3), (4, .int a4)]) (hP : va_P D vwCl (wdM cJ cI oM oM1 oM2 oM3 oM4 oM5 oM6 oM7 oM8 oM9 oM10 oM11 mw mt mrim mjn mhm mpn mbm mgm mpi mst mam mac mro mbe mhi mmi mgr mtr mle) H) (hD : va_D A (wdM cJ cI oM oM1 oM2 oM3 oM4 oM5 oM6 oM7 oM8 oM9 oM10 oM11 mw mt mrim mjn mhm mpn mbm mgm mpi mst mam mac mro mbe mhi mmi mgr mtr mle)) (hS : va_S A s.heap H locs) (K : ∀ (pc : Nat) (ls : Array Slot) (H : Heap) (locs : List Loc), decode cX8_mix pc = .ok (.ireturn, 1) → va_P D vwCl (wdM cJ cI oM oM1 oM2 oM3 oM4 oM5 oM6 oM7 oM8 oM9 oM10 oM11 mw mt mrim mjn mhm mpn mbm mgm y_mpi mst mam mac mro mbe mhi mmi mgr mtr mle) H → va_D A (wdM cJ cI oM oM1 oM2 oM3 oM4 oM5 oM6 oM7 oM8 oM9 oM10 oM11 mw mt mrim mjn mhm mpn mbm mgm y_mpi mst mam mac mro mbe mhi mmi mgr mtr mle) → va_S A s.heap H locs → W p l e R s m args below meth c H locs cells slots Q (F0 m pc ls [.int r])) : W p l e R s m args below meth c H locs cells slots Q (F0 m 0 ls []) := by
  unfold mX8_mix at hm
  refine lv_iload_n hx hb dX8_mix_0 rfl (lv_at hl 1 rfl) ?_
  refine lv_i2l (v := ((a1).toInt64)) hx hb dX8_mix_1 rfl ?_
  refine lv_lconst (v := (0 : Int64)) hx hb dX8_mix_2 (by decide) ?_
  refine lv_ldc2 (v := (3 : Int64)) hx hb hown (hts _ qw_161) dX8_mix_3 ?_
  refine kX8_in ⟨hx, hb, hml, hown, hts⟩ qw_65 hl.1 ⟨Nat.le_trans (by decide) hR.1, Nat.le_trans (by decide) hR.2.1, hR.2.2⟩ (Nat.le_of_ble_eq_true rfl) dX8_mix_6 ?_
  refine lv_if_ne (tgt := 15) hx hb dX8_mix_9 (by decide) (fun c2 => ?_) (fun c2 => ?_)
  · rw [if_neg c2] at hm
    refine lv_iload_n hx hb dX8_mix_15 rfl (lv_at hl 2 rfl) ?_
    refine kX8_isPicture ⟨hx, hb, hml, hown, hts⟩ qw_101 hl.1 ⟨Nat.le_trans (by decide) hR.1, Nat.le_trans (by decide) hR.2.1, hR.2.2⟩ (Nat.le_of_ble_eq_true rfl) dX8_mix_16 ?_
    refine lv_if_eq (tgt := 42) hx hb dX8_mix_19 (by decide) (fun c4 => ?_) (fun c4 => ?_)
    · rw [if_pos c4] at hm
      refine lv_iconst (v := (-1 : Int32)) hx hb dX8_mix_42 (by decide) ?_
      have hm := Option.some.inj hm
      have e9 : r = (-1 : Int32) := (congrArg (fun q => q.1) hm).symm
      rw [e9] at K
      have e9 : y_mpi = mpi := (congrArg (fun q => q.2) hm).symm
      rw [e9] at K
      exact K 43 ls _ _ dX8_mix_43 hP hD hS
    · rw [if_neg c4] at hm
      refine lv_iload_n hx hb dX8_mix_22 rfl (lv_at hl 1 rfl) ?_
      refine lv_iconst (v := (3 : Int32)) hx hb dX8_mix_23 (by decide) ?_
      refine lv_icmp_ge (tgt := 34) hx hb dX8_mix_24 (by decide) (fun c5 => ?_) (fun c5 => ?_)
      · rw [if_pos c5] at hm
        refine lv_iload hx hb dX8_mix_34 (lv_at hl 4 rfl) ?_
        refine kX8_isPicture ⟨hx, hb, hml, hown, hts⟩ qw_101 hl.1 ⟨Nat.le_trans (by decide) hR.1, Nat.le_trans (by decide) hR.2.1, hR.2.2⟩ (Nat.le_of_ble_eq_true rfl) dX8_mix_36 ?_
        refine lv_if_ne (tgt := 44) hx hb dX8_mix_39 (by decide) (fun c7 => ?_) (fun c7 => ?_)
        · rw [if_neg c7] at hm
          refine lv_aload_n hx hb dX8_mix_44 rfl (lv_at hl 0 rfl) ?_
          refine va_get (D := D) (ci := 8) (v := .ref oM1) (C := RX8) (T := TX8) (N := 19) hx hb hts tnX8 hown hK hP 0 rfl rfl 2 (by decide) (hts _ qw_103) (fun _ h9 => h9) rfl dX8_mix_45 ?_
          refine lv_iload_n hx hb dX8_mix_48 rfl (lv_at hl 2 rfl) ?_
          obtain ⟨g8, hm⟩ := gd_out hm
          refine va_lald hx hb hK hP 1 1 rfl rfl g8 dX8_mix_49 ?_
          refine lv_lstore (lv' := [(5, .long (mpi a2.toNatClampNeg)), (0, .ref oM), (1, .int a1), (2, .int a2), (3, .int a3), (4, .int a4)]) hx hb dX8_mix_50 hl (by decide) rfl (fun ls hl => ?_)
          refine lv_iload_n hx hb dX8_mix_52 rfl (lv_at hl 2 rfl) ?_
          refine lv_iconst (v := (3 : Int32)) hx hb dX8_mix_53 (by decide) ?_
          obtain ⟨j9, hi10, hm⟩ := jb_out hm
          have key11 : ∀ (ls : Array Slot), lv_has ls 9 [(5, .long (mpi a2.toNatClampNeg)), (0, .ref oM), (1, .int a1), (4, .int a4)] → W p l e R s m args below meth c H locs cells slots Q (F0 m 67 ls [.long j9]) := by
            intro ls hl
            refine lv_lstore (lv' := [(7, .long j9), (5, .long (mpi a2.toNatClampNeg)), (0, .ref oM), (1, .int a1), (4, .int a4)]) hx hb dX8_mix_67 hl (by decide) rfl (fun ls hl => ?_)
            refine lv_aload_n hx hb dX8_mix_69 rfl (lv_at hl 2 rfl) ?_
            refine va_get (D := D) (ci := 8) (v := .ref oM1) (C := RX8) (T := TX8) (N := 19) hx hb hts tnX8 hown hK hP 0 rfl rfl 2 (by decide) (hts _ qw_103) (fun _ h9 => h9) rfl dX8_mix_70 ?_
            refine lv_iload hx hb dX8_mix_73 (lv_at hl 4 rfl) ?_
            refine lv_iload_n hx hb dX8_mix_75 rfl (lv_at hl 3 rfl) ?_
            obtain ⟨j14, hi15, hm⟩ := jl_out hm
            have key16 : ∀ (ls : Array Slot), lv_has ls 9 [(0, .ref oM), (4, .int a4)] → W p l e R s m args below meth c H locs cells slots Q (F0 m 109 ls [.long j14, .int a4, .ref oM1]) := by
              intro ls hl
              obtain ⟨g19, hm⟩ := gd_out hm
              refine va_last hx hb hK hP hD hS 1 1 rfl rfl g19 dX8_mix_109 (fun H locs hP hD hS => ?_)
              have hP : va_P D vwCl (wdM cJ cI oM oM1 oM2 oM3 oM4 oM5 oM6 oM7 oM8 oM9 oM10 oM11 mw mt mrim mjn mhm mpn mbm mgm (vp_updL mpi a4.toNatClampNeg j14) mst mam mac mro mbe mhi mmi mgr mtr mle) H := hP
              have hD : va_D A (wdM cJ cI oM oM1 oM2 oM3 oM4 oM5 oM6 oM7 oM8 oM9 oM10 oM11 mw mt mrim mjn mhm mpn mbm mgm (vp_updL mpi a4.toNatClampNeg j14) mst mam mac mro mbe mhi mmi mgr mtr mle) := hD
              refine lv_aload_n hx hb dX8_mix_110 rfl (lv_at hl 0 rfl) ?_
              refine va_get (D := D) (ci := 8) (v := .ref oM1) (C := RX8) (T := TX8) (N := 19) hx hb hts tnX8 hown hK hP 0 rfl rfl 2 (by decide) (hts _ qw_103) (fun _ h9 => h9) rfl dX8_mix_111 ?_
              refine lv_iload hx hb dX8_mix_114 (lv_at hl 1 rfl) ?_
              obtain ⟨g20, hm⟩ := gd_out hm
              refine va_lald hx hb hK hP 1 1 rfl rfl g20 dX8_mix_116 ?_
              obtain ⟨r21, h22, hm⟩ := jb_out hm
              refine kX8_many ⟨hx, hb, hml, hown, hts⟩ qw_112 h22 hl.1 ⟨Nat.le_trans (by decide) hR.1, Nat.le_trans (by decide) hR.2.1, hR.2.2⟩ (Nat.le_of_ble_eq_true rfl) dX8_mix_117 ?_
              have hm := Option.some.inj hm
              have e9 : r = r21 := (congrArg (fun q => q.1) hm).symm
              rw [e9] at K
              have e9 : y_mpi = (vp_updL mpi a4.toNatClampNeg j14) := (congrArg (fun q => q.2) hm).symm
              rw [e9] at K
              exact K 120 ls _ _ dX8_mix_120 hP hD hS
            refine lv_if_ne (tgt := 87) hx hb dX8_mix_76 (by decide) (fun c17 => ?_) (fun c17 => ?_)
            · rw [if_neg c17] at hi15
              refine lv_iload_n hx hb dX8_mix_87 rfl (lv_at hl 3 rfl) ?_
              refine lv_iconst (v := (1 : Int32)) hx hb dX8_mix_88 (by decide) ?_
              refine lv_icmp_ne (tgt := 100) hx hb dX8_mix_89 (by decide) (fun c18 => ?_) (fun c18 => ?_)
              · rw [if_neg c18] at hi15
                refine lv_lload hx hb dX8_mix_100 (lv_at hl 1 rfl) ?_
                refine lv_lload hx hb dX8_mix_102 (lv_at hl 0 rfl) ?_
                refine lv_ldc2 (v := (-1 : Int64)) hx hb hown (hts _ qw_97) dX8_mix_104 ?_
                refine lv_lxor hx hb dX8_mix_107 ?_
                refine lv_land hx hb dX8_mix_108 ?_
                rw [hi15] at key16
                exact key16 ls (lv_sub hl [2, 4] rfl)
              · rw [if_pos c18] at hi15
                refine lv_lload hx hb dX8_mix_92 (lv_at hl 1 rfl) ?_
                refine lv_lload hx hb dX8_mix_94 (lv_at hl 0 rfl) ?_
                refine lv_lor hx hb dX8_mix_96 ?_
                refine lv_goto (tgt := 109) hx hb dX8_mix_97 (by decide) ?_
                rw [hi15] at key16
                exact key16 ls (lv_sub hl [2, 4] rfl)
            · rw [if_pos c17] at hi15
              refine lv_lload hx hb dX8_mix_79 (lv_at hl 1 rfl) ?_
              refine lv_lload hx hb dX8_mix_81 (lv_at hl 0 rfl) ?_
              refine lv_land hx hb dX8_mix_83 ?_
              refine lv_goto (tgt := 109) hx hb dX8_mix_84 (by decide) ?_
              rw [hi15] at key16
              exact key16 ls (lv_sub hl [2, 4] rfl)
          refine lv_icmp_ge (tgt := 66) hx hb dX8_mix_54 (by decide) (fun c12 => ?_) (fun c12 => ?_)
          · rw [if_pos c12] at hi10
            refine lv_lconst (v := (0 : Int64)) hx hb dX8_mix_66 (by decide) ?_
            have hi10 := Option.some.inj hi10
            have e9 : j9 = (0 : Int64) := (congrArg (fun q => q) hi10).symm
            rw [e9] at key11
            exact key11 ls (lv_sub hl [0, 1, 2, 5] rfl)
          · rw [if_neg c12] at hi10
            refine lv_aload_n hx hb dX8_mix_57 rfl (lv_at hl 1 rfl) ?_
            refine va_get (D := D) (ci := 8) (v := .ref oM1) (C := RX8) (T := TX8) (N := 19) hx hb hts tnX8 hown hK hP 0 rfl rfl 2 (by decide) (hts _ qw_103) (fun _ h9 => h9) rfl dX8_mix_58 ?_
            refine lv_iload_n hx hb dX8_mix_61 rfl (lv_at hl 4 rfl) ?_
            obtain ⟨g13, hi10⟩ := gd_out hi10
            refine va_lald hx hb hK hP 1 1 rfl rfl g13 dX8_mix_62 ?_
            refine lv_goto (tgt := 67) hx hb dX8_mix_63 (by decide) ?_
            have hi10 := Option.some.inj hi10
            have e9 : j9 = (mpi a3.toNatClampNeg) := (congrArg (fun q => q) hi10).symm
            rw [e9] at key11
            exact key11 ls (lv_sub hl [0, 1, 2, 5] rfl)
        · rw [if_pos c7] at hm
          refine lv_iconst (v := (-1 : Int32)) hx hb dX8_mix_42 (by decide) ?_
          have hm := Option.some.inj hm
          have e9 : r = (-1 : Int32) := (congrArg (fun q => q.1) hm).symm
          rw [e9] at K
          have e9 : y_mpi = mpi := (congrArg (fun q => q.2) hm).symm
          rw [e9] at K
          exact K 43 ls _ _ dX8_mix_43 hP hD hS
      · rw [if_neg c5] at hm
        refine lv_iload_n hx hb dX8_mix_27 rfl (lv_at hl 3 rfl) ?_
        refine kX8_isPicture ⟨hx, hb, hml, hown, hts⟩ qw_101 hl.1 ⟨Nat.le_trans (by decide) hR.1, Nat.le_trans (by decide) hR.2.1, hR.2.2⟩ (Nat.le_of_ble_eq_true rfl) dX8_mix_28 ?_
        refine lv_if_eq (tgt := 42) hx hb dX8_mix_31 (by decide) (fun c24 => ?_) (fun c24 => ?_)
        · rw [if_pos c24] at hm
          refine lv_iconst (v := (-1 : Int32)) hx hb dX8_mix_42 (by decide) ?_
          have hm := Option.some.inj hm
          have e9 : r = (-1 : Int32) := (congrArg (fun q => q.1) hm).symm
          rw [e9] at K
          have e9 : y_mpi = mpi := (congrArg (fun q => q.2) hm).symm
          rw [e9] at K
          exact K 43 ls _ _ dX8_mix_43 hP hD hS
        · rw [if_neg c24] at hm
          refine lv_iload hx hb dX8_mix_34 (lv_at hl 4 rfl) ?_
          refine kX8_isPicture ⟨hx, hb, hml, hown, hts⟩ qw_101 hl.1 ⟨Nat.le_trans (by decide) hR.1, Nat.le_trans (by decide) hR.2.1, hR.2.2⟩ (Nat.le_of_ble_eq_true rfl) dX8_mix_36 ?_
          refine lv_if_ne (tgt := 44) hx hb dX8_mix_39 (by decide) (fun c26 => ?_) (fun c26 => ?_)
          · rw [if_neg c26] at hm
            refine lv_aload_n hx hb dX8_mix_44 rfl (lv_at hl 0 rfl) ?_
            refine va_get (D := D) (ci := 8) (v := .ref oM1) (C := RX8) (T := TX8) (N := 19) hx hb hts tnX8 hown hK hP 0 rfl rfl 2 (by decide) (hts _ qw_103) (fun _ h9 => h9) rfl dX8_mix_45 ?_
            refine lv_iload_n hx hb dX8_mix_48 rfl (lv_at hl 2 rfl) ?_
            obtain ⟨g27, hm⟩ := gd_out hm
            refine va_lald hx hb hK hP 1 1 rfl rfl g27 dX8_mix_49 ?_
            refine lv_lstore (lv' := [(5, .long (mpi a2.toNatClampNeg)), (0, .ref oM), (1, .int a1), (2, .int a2), (3, .int a3), (4, .int a4)]) hx hb dX8_mix_50 hl (by decide) rfl (fun ls hl => ?_)
            refine lv_iload_n hx hb dX8_mix_52 rfl (lv_at hl 2 rfl) ?_
            refine lv_iconst (v := (3 : Int32)) hx hb dX8_mix_53 (by decide) ?_
            obtain ⟨j28, hi29, hm⟩ := jb_out hm
            have key30 : ∀ (ls : Array Slot), lv_has ls 9 [(5, .long (mpi a2.toNatClampNeg)), (0, .ref oM), (1, .int a1), (4, .int a4)] → W p l e R s m args below meth c H locs cells slots Q (F0 m 67 ls [.long j28]) := by
              intro ls hl
              refine lv_lstore (lv' := [(7, .long j28), (5, .long (mpi a2.toNatClampNeg)), (0, .ref oM), (1, .int a1), (4, .int a4)]) hx hb dX8_mix_67 hl (by decide) rfl (fun ls hl => ?_)
              refine lv_aload_n hx hb dX8_mix_69 rfl (lv_at hl 2 rfl) ?_
              refine va_get (D := D) (ci := 8) (v := .ref oM1) (C := RX8) (T := TX8) (N := 19) hx hb hts tnX8 hown hK hP 0 rfl rfl 2 (by decide) (hts _ qw_103) (fun _ h9 => h9) rfl dX8_mix_70 ?_
              refine lv_iload hx hb dX8_mix_73 (lv_at hl 4 rfl) ?_
              refine lv_iload_n hx hb dX8_mix_75 rfl (lv_at hl 3 rfl) ?_
              obtain ⟨j33, hi34, hm⟩ := jl_out hm
              have key35 : ∀ (ls : Array Slot), lv_has ls 9 [(0, .ref oM), (4, .int a4)] → W p l e R s m args below meth c H locs cells slots Q (F0 m 109 ls [.long j33, .int a4, .ref oM1]) := by
                intro ls hl
                obtain ⟨g38, hm⟩ := gd_out hm
                refine va_last hx hb hK hP hD hS 1 1 rfl rfl g38 dX8_mix_109 (fun H locs hP hD hS => ?_)
                have hP : va_P D vwCl (wdM cJ cI oM oM1 oM2 oM3 oM4 oM5 oM6 oM7 oM8 oM9 oM10 oM11 mw mt mrim mjn mhm mpn mbm mgm (vp_updL mpi a4.toNatClampNeg j33) mst mam mac mro mbe mhi mmi mgr mtr mle) H := hP
                have hD : va_D A (wdM cJ cI oM oM1 oM2 oM3 oM4 oM5 oM6 oM7 oM8 oM9 oM10 oM11 mw mt mrim mjn mhm mpn mbm mgm (vp_updL mpi a4.toNatClampNeg j33) mst mam mac mro mbe mhi mmi mgr mtr mle) := hD
                refine lv_aload_n hx hb dX8_mix_110 rfl (lv_at hl 0 rfl) ?_
                refine va_get (D := D) (ci := 8) (v := .ref oM1) (C := RX8) (T := TX8) (N := 19) hx hb hts tnX8 hown hK hP 0 rfl rfl 2 (by decide) (hts _ qw_103) (fun _ h9 => h9) rfl dX8_mix_111 ?_
                refine lv_iload hx hb dX8_mix_114 (lv_at hl 1 rfl) ?_
                obtain ⟨g39, hm⟩ := gd_out hm
                refine va_lald hx hb hK hP 1 1 rfl rfl g39 dX8_mix_116 ?_
                obtain ⟨r40, h41, hm⟩ := jb_out hm
                refine kX8_many ⟨hx, hb, hml, hown, hts⟩ qw_112 h41 hl.1 ⟨Nat.le_trans (by decide) hR.1, Nat.le_trans (by decide) hR.2.1, hR.2.2⟩ (Nat.le_of_ble_eq_true rfl) dX8_mix_117 ?_
                have hm := Option.some.inj hm
                have e9 : r = r40 := (congrArg (fun q => q.1) hm).symm
                rw [e9] at K
                have e9 : y_mpi = (vp_updL mpi a4.toNatClampNeg j33) := (congrArg (fun q => q.2) hm).symm
                rw [e9] at K
                exact K 120 ls _ _ dX8_mix_120 hP hD hS
              refine lv_if_ne (tgt := 87) hx hb dX8_mix_76 (by decide) (fun c36 => ?_) (fun c36 => ?_)
              · rw [if_neg c36] at hi34
                refine lv_iload_n hx hb dX8_mix_87 rfl (lv_at hl 3 rfl) ?_
                refine lv_iconst (v := (1 : Int32)) hx hb dX8_mix_88 (by decide) ?_
                refine lv_icmp_ne (tgt := 100) hx hb dX8_mix_89 (by decide) (fun c37 => ?_) (fun c37 => ?_)
                · rw [if_neg c37] at hi34
                  refine lv_lload hx hb dX8_mix_100 (lv_at hl 1 rfl) ?_
                  refine lv_lload hx hb dX8_mix_102 (lv_at hl 0 rfl) ?_
                  refine lv_ldc2 (v := (-1 : Int64)) hx hb hown (hts _ qw_97) dX8_mix_104 ?_
                  refine lv_lxor hx hb dX8_mix_107 ?_
                  refine lv_land hx hb dX8_mix_108 ?_
                  rw [hi34] at key35
                  exact key35 ls (lv_sub hl [2, 4] rfl)
                · rw [if_pos c37] at hi34
                  refine lv_lload hx hb dX8_mix_92 (lv_at hl 1 rfl) ?_
                  refine lv_lload hx hb dX8_mix_94 (lv_at hl 0 rfl) ?_
                  refine lv_lor hx hb dX8_mix_96 ?_
                  refine lv_goto (tgt := 109) hx hb dX8_mix_97 (by decide) ?_
                  rw [hi34] at key35
                  exact key35 ls (lv_sub hl [2, 4] rfl)
              · rw [if_pos c36] at hi34
                refine lv_lload hx hb dX8_mix_79 (lv_at hl 1 rfl) ?_
                refine lv_lload hx hb dX8_mix_81 (lv_at hl 0 rfl) ?_
                refine lv_land hx hb dX8_mix_83 ?_
                refine lv_goto (tgt := 109) hx hb dX8_mix_84 (by decide) ?_
                rw [hi34] at key35
                exact key35 ls (lv_sub hl [2, 4] rfl)
            refine lv_icmp_ge (tgt := 66) hx hb dX8_mix_54 (by decide) (fun c31 => ?_) (fun c31 => ?_)
            · rw [if_pos c31] at hi29
              refine lv_lconst (v := (0 : Int64)) hx hb dX8_mix_66 (by decide) ?_
              have hi29 := Option.some.inj hi29
              have e9 : j28 = (0 : Int64) := (congrArg (fun q => q) hi29).symm
              rw [e9] at key30
              exact key30 ls (lv_sub hl [0, 1, 2, 5] rfl)
            · rw [if_neg c31] at hi29
              refine lv_aload_n hx hb dX8_mix_57 rfl (lv_at hl 1 rfl) ?_
              refine va_get (D := D) (ci := 8) (v := .ref oM1) (C := RX8) (T := TX8) (N := 19) hx hb hts tnX8 hown hK hP 0 rfl rfl 2 (by decide) (hts _ qw_103) (fun _ h9 => h9) rfl dX8_mix_58 ?_
              refine lv_iload_n hx hb dX8_mix_61 rfl (lv_at hl 4 rfl) ?_
              obtain ⟨g32, hi29⟩ := gd_out hi29
              refine va_lald hx hb hK hP 1 1 rfl rfl g32 dX8_mix_62 ?_
              refine lv_goto (tgt := 67) hx hb dX8_mix_63 (by decide) ?_
              have hi29 := Option.some.inj hi29
              have e9 : j28 = (mpi a3.toNatClampNeg) := (congrArg (fun q => q) hi29).symm
              rw [e9] at key30
              exact key30 ls (lv_sub hl [0, 1, 2, 5] rfl)
          · rw [if_pos c26] at hm
            refine lv_iconst (v := (-1 : Int32)) hx hb dX8_mix_42 (by decide) ?_
            have hm := Option.some.inj hm
            have e9 : r = (-1 : Int32) := (congrArg (fun q => q.1) hm).symm
            rw [e9] at K
            have e9 : y_mpi = mpi := (congrArg (fun q => q.2) hm).symm
            rw [e9] at K
            exact K 43 ls _ _ dX8_mix_43 hP hD hS
  · rw [if_pos c2] at hm
    refine lv_bipush (v := (-2 : Int32)) hx hb dX8_mix_12 (by decide) ?_
    have hm := Option.some.inj hm
    have e9 : r = (-2 : Int32) := (congrArg (fun q => q.1) hm).symm
    rw [e9] at K
    have e9 : y_mpi = mpi := (congrArg (fun q => q.2) hm).symm
    rw [e9] at K
    exact K 14 ls _ _ dX8_mix_14 hP hD hS
set_option maxHeartbeats 4000000 in
set_option maxRecDepth 100000 in
theorem tX8_mix (l : Launch) {D : va_G} (sz : Nat) {n : Nat} {a1 : Int32} {a2 : Int32} {a3 : Int32} {a4 : Int32} {r : Int32} {y_mpi : (Nat → Int64)} (hm : mX8_mix n mpi a1 a2 a3 a4 = some (r, y_mpi)) : Met l yX8_mix (.code yX8_mix cX8_mix 9 (some .int) :: tw) ({ frames := 2, cells := 0, slots := 0, locals := 45 } : Room) (wrP D [.ref oM, .int a1, .int a2, .int a3, .int a4] (wdM cJ cI oM oM1 oM2 oM3 oM4 oM5 oM6 oM7 oM8 oM9 oM10 oM11 mw mt mrim mjn mhm mpn mbm mgm mpi mst mam mac mro mbe mhi mmi mgr mtr mle) [(cI, .int), (cJ, .long)] sz) (va_Qi (fun q (_ : Unit) => q = r) (fun (_ : Unit) (t : State) => va_P D vwCl (wdM cJ cI oM oM1 oM2 oM3 oM4 oM5 oM6 oM7 oM8 oM9 oM10 oM11 mw mt mrim mjn mhm mpn mbm mgm y_mpi mst mam mac mro mbe mhi mmi mgr mtr mle) t.heap ∧ va_K D vwCl [(cI, .int), (cJ, .long)] t ∧ va_D (va_A (wdM cJ cI oM oM1 oM2 oM3 oM4 oM5 oM6 oM7 oM8 oM9 oM10 oM11 mw mt mrim mjn mhm mpn mbm mgm mpi mst mam mac mro mbe mhi mmi mgr mtr mle) sz) (wdM cJ cI oM oM1 oM2 oM3 oM4 oM5 oM6 oM7 oM8 oM9 oM10 oM11 mw mt mrim mjn mhm mpn mbm mgm y_mpi mst mam mac mro mbe mhi mmi mgr mtr mle)) (va_A (wdM cJ cI oM oM1 oM2 oM3 oM4 oM5 oM6 oM7 oM8 oM9 oM10 oM11 mw mt mrim mjn mhm mpn mbm mgm mpi mst mam mac mro mbe mhi mmi mgr mtr mle) sz)) 0 0 (va_A (wdM cJ cI oM oM1 oM2 oM3 oM4 oM5 oM6 oM7 oM8 oM9 oM10 oM11 mw mt mrim mjn mhm mpn mbm mgm mpi mst mam mac mro mbe mhi mmi mgr mtr mle) sz) := by
  refine Met.ofW (cc := cX8_mix) (maxL := 9) (ret := (some .int)) (by decide) rfl ?_
  intro p e s m args below meth c s₁ B hml hv
  obtain ⟨rfl, hsz, hP, hK, hD0⟩ := hv
  have hx := B.exec
  have hb := B.bytes
  have hr := B.returns
  have hts : ∀ w ∈ tw, w.before _ s = true := fun w h => atoms_spec (ws := .code yX8_mix cX8_mix 9 (some .int) :: tw) B.pre w (List.mem_cons_of_mem _ h)
  have hown : s.vm.findClass RX8 = some m.cls := findClass_of_methodNamed B.named
  have hlocks := B.notSynchronized
  subst hsz
  have hD := hD0.self (sz := s.heap.size)
  have hl := lv_entry ([.ref oM, .int a1, .int a2, .int a3, .int a4]) (n := 9) (Nat.le_of_ble_eq_true rfl)
  rw [lg_entry_eq]
  generalize (lg_sl ([.ref oM, .int a1, .int a2, .int a3, .int a4]) ++ List.replicate (9 - (lg_sl ([.ref oM, .int a1, .int a2, .int a3, .int a4])).length) Slot.unset).toArray = ls at hl ⊢
  refine bX8_mix hx hb hml hown hts hK (fun q h => Or.inr h) ⟨Nat.le_of_ble_eq_true rfl, Nat.le_of_ble_eq_true rfl, Nat.zero_le _, Nat.zero_le _⟩ hm ls hl hP hD va_S.rf (fun pc ls H locs hd hP hD hS => ?_)
  exact W.iret hx hb hr (fun t ht hW => ⟨⟨r, (), rfl, rfl, by rw [ht]; exact hP, va_K.moved hW.alike hK, hD⟩, hS.F ht⟩) hS.2.2 hd
set_option maxHeartbeats 4000000 in
set_option maxRecDepth 100000 in
theorem kX8_mix {own : String} {cc : ByteArray} {nL idx pc : Nat} {ls : Array Slot} {rest : List Value} {ws wr : va_W} {n : Nat} {a1 : Int32} {a2 : Int32} {a3 : Int32} {a4 : Int32} {r : Int32} {y_mpi : (Nat → Int64)} (fx : CallFix p m c cc nL s args tw own) (hq : Cond.methodLink own idx yX8_mix ∈ tw) (isC isR : List Nat) (hC : isC.map (fun i => ws[i]?) = ((wdM cJ cI oM oM1 oM2 oM3 oM4 oM5 oM6 oM7 oM8 oM9 oM10 oM11 mw mt mrim mjn mhm mpn mbm mgm mpi mst mam mac mro mbe mhi mmi mgr mtr mle) : va_W).map some) (hRr : isR.map (fun i => ws[i]?) = wr.map some) (hnC : va_nd isC = true) (hn : va_nd isR = true) (hdis : ∀ i ∈ isR, i ∉ isC) (hK : va_K D vwCl [(cI, .int), (cJ, .long)] s) (hm : mX8_mix n mpi a1 a2 a3 a4 = some (r, y_mpi)) (hsz : ls.size = nL) (hR : 3 ≤ R.frames ∧ 73 ≤ R.locals ∧ cells ≤ R.cells ∧ slots ≤ R.slots) (hst : (rest.map fun v => v.category).sum ≤ 8) (hd : decode cc pc = .ok (.invokevirtual idx, 3)) (hP : va_P D vwCl ws H) (hD : va_D A ws) (hS : va_S A s.heap H locs) (hA : ∀ q, s.heap.size ≤ q → A q) (kk : ∀ (H : Heap) (locs : List Loc), va_P D vwCl (wr ++ (wdM cJ cI oM oM1 oM2 oM3 oM4 oM5 oM6 oM7 oM8 oM9 oM10 oM11 mw mt mrim mjn mhm mpn mbm mgm y_mpi mst mam mac mro mbe mhi mmi mgr mtr mle)) H → va_D A (wr ++ (wdM cJ cI oM oM1 oM2 oM3 oM4 oM5 oM6 oM7 oM8 oM9 oM10 oM11 mw mt mrim mjn mhm mpn mbm mgm y_mpi mst mam mac mro mbe mhi mmi mgr mtr mle)) → va_S A s.heap H locs → W p l e R s m args below meth c H locs cells slots Q (F0 m (pc + 3) ls (.int r :: rest))) : W p l e R s m args below meth c H locs cells slots Q (F0 m pc ls (.int a4 :: .int a3 :: .int a2 :: .int a1 :: .ref oM :: rest)) := by
  have hPc := va_P.subM hP isC hC
  have hDc := hD.sub isC hnC hC
  have hFc := va_free (wc := (wdM cJ cI oM oM1 oM2 oM3 oM4 oM5 oM6 oM7 oM8 oM9 oM10 oM11 mw mt mrim mjn mhm mpn mbm mgm mpi mst mam mac mro mbe mhi mmi mgr mtr mle)) hD hS hA isC hC
  refine va_calli (va_runV (As := [.int a1, .int a2, .int a3, .int a4]) (rest := rest) fx (tX8_mix l H.size hm) (cwV 4 fx.2.2.2.2 (tw_V hq qw_469 qw_470 qw_53 qw_471) rfl rfl rfl (by decide +kernel) ⟨hR.1, hR.2.1⟩) ⟨wrP_bl, va_recv hK hPc (ci := 8) (q0 := 0) rfl rfl, wrP_ok hPc hK hDc⟩ rfl rfl hsz rfl (lv_room hst) hd ⟨hR.2.2.1, hR.2.2.2⟩) hS (fun q _ h => hFc q h) hFc (fun r9 u t H1 locs ht hvm hw hB hz1 hk1 hS => ?_)
  obtain ⟨hP1, hK1, hD1⟩ := hB
  rw [ht] at hP1
  rw [hw]
  obtain ⟨hP2, hD2⟩ := va_join (wr := wr) (w1 := (wdM cJ cI oM oM1 oM2 oM3 oM4 oM5 oM6 oM7 oM8 oM9 oM10 oM11 mw mt mrim mjn mhm mpn mbm mgm y_mpi mst mam mac mro mbe mhi mmi mgr mtr mle)) hP hD isC isR hC hRr hn hdis hk1 hFc hP1 hD1
  exact kk H1 locs hP2 hD2 hS
-- X8_act
def mX8_act (n : Nat) (mpi : Nat → Int64) (mst : Nat → Int32) (mw : Int32) (mt : Int32) (mrim : Int32) (a1 : Int32) (a2 : Int32) : Option (Int32 × (Nat → Int64)) :=
  (if (mX8_isPicture a1) = 0 then (some ((-1 : Int32), mpi)) else (if (mX8_isAct a2) = 0 then (some ((-2 : Int32), mpi)) else gd (ib a1 5) (jb (mX8_acted n mst mw mt mrim (mpi a1.toNatClampNeg) a2) (fun (r6 : Int64) => gd (ib a1 5) (gd (ib a1 5) (jb (mX8_many n ((vp_updL mpi a1.toNatClampNeg r6) a1.toNatClampNeg)) (fun (r10 : Int32) => (some (r10, (vp_updL mpi a1.toNatClampNeg r6))))))))))
theorem dX8_act_0 : decode cX8_act 0 = .ok (.iload_n 1, 1) := by decide +kernel
theorem dX8_act_1 : decode cX8_act 1 = .ok (.invokestatic 71, 3) := by decide +kernel
theorem dX8_act_4 : decode cX8_act 4 = .ok (.ifCond .ne 5, 3) := by decide +kernel
theorem dX8_act_7 : decode cX8_act 7 = .ok (.iconst (-1), 1) := by decide +kernel
theorem dX8_act_8 : decode cX8_act 8 = .ok (.ireturn, 1) := by decide +kernel
theorem dX8_act_9 : decode cX8_act 9 = .ok (.iload_n 2, 1) := by decide +kernel
theorem dX8_act_10 : decode cX8_act 10 = .ok (.invokestatic 113, 3) := by decide +kernel
theorem dX8_act_13 : decode cX8_act 13 = .ok (.ifCond .ne 6, 3) := by decide +kernel
theorem dX8_act_16 : decode cX8_act 16 = .ok (.bipush (-2), 2) := by decide +kernel
theorem dX8_act_18 : decode cX8_act 18 = .ok (.ireturn, 1) := by decide +kernel
theorem dX8_act_19 : decode cX8_act 19 = .ok (.aload_n 0, 1) := by decide +kernel
theorem dX8_act_20 : decode cX8_act 20 = .ok (.getfield 16, 3) := by decide +kernel
theorem dX8_act_23 : decode cX8_act 23 = .ok (.iload_n 1, 1) := by decide +kernel
theorem dX8_act_24 : decode cX8_act 24 = .ok (.aload_n 0, 1) := by decide +kernel
theorem dX8_act_25 : decode cX8_act 25 = .ok (.aload_n 0, 1) := by decide +kernel
theorem dX8_act_26 : decode cX8_act 26 = .ok (.getfield 16, 3) := by decide +kernel
theorem dX8_act_29 : decode cX8_act 29 = .ok (.iload_n 1, 1) := by decide +kernel
theorem dX8_act_30 : decode cX8_act 30 = .ok (.laload, 1) := by decide +kernel
theorem dX8_act_31 : decode cX8_act 31 = .ok (.iload_n 2, 1) := by decide +kernel
theorem dX8_act_32 : decode cX8_act 32 = .ok (.invokevirtual 116, 3) := by decide +kernel
theorem dX8_act_35 : decode cX8_act 35 = .ok (.lastore, 1) := by decide +kernel
theorem dX8_act_36 : decode cX8_act 36 = .ok (.aload_n 0, 1) := by decide +kernel
theorem dX8_act_37 : decode cX8_act 37 = .ok (.getfield 16, 3) := by decide +kernel
theorem dX8_act_40 : decode cX8_act 40 = .ok (.iload_n 1, 1) := by decide +kernel
theorem dX8_act_41 : decode cX8_act 41 = .ok (.laload, 1) := by decide +kernel
theorem dX8_act_42 : decode cX8_act 42 = .ok (.invokestatic 88, 3) := by decide +kernel
theorem dX8_act_45 : decode cX8_act 45 = .ok (.ireturn, 1) := by decide +kernel
set_option maxHeartbeats 4000000 in
set_option maxRecDepth 100000 in
theorem bX8_act {n : Nat} {a1 : Int32} {a2 : Int32} {r : Int32} {y_mpi : (Nat → Int64)} (hx : p.tables.exec = Jvm.exec) (hb : c.code = cX8_act) (hml : c.maxLocals = 3) (hown : s.vm.findClass RX8 = some m.cls) (hts : ∀ w ∈ tw, w.before args s = true) (hK : va_K D vwCl [(cI, .int), (cJ, .long)] s) (hA : ∀ q, s.heap.size ≤ q → A q) (hR : 4 ≤ R.frames ∧ 102 ≤ R.locals ∧ cells ≤ R.cells ∧ slots ≤ R.slots) (hm : mX8_act n mpi mst mw mt mrim a1 a2 = some (r, y_mpi)) (ls : Array Slot) (hl : lv_has ls 3 [(0, .ref oM), (1, .int a1), (2, .int a2)]) (hP : va_P D vwCl (wdM cJ cI oM oM1 oM2 oM3 oM4 oM5 oM6 oM7 oM8 oM9 oM10 oM11 mw mt mrim mjn mhm mpn mbm mgm mpi mst mam mac mro mbe mhi mmi mgr mtr mle) H) (hD : va_D A (wdM cJ cI oM oM1 oM2 oM3 oM4 oM5 oM6 oM7 oM8 oM9 oM10 oM11 mw mt mrim mjn mhm mpn mbm mgm mpi mst mam mac mro mbe mhi mmi mgr mtr mle)) (hS : va_S A s.heap H locs) (K : ∀ (pc : Nat) (ls : Array Slot) (H : Heap) (locs : List Loc), decode cX8_act pc = .ok (.ireturn, 1) → va_P D vwCl (wdM cJ cI oM oM1 oM2 oM3 oM4 oM5 oM6 oM7 oM8 oM9 oM10 oM11 mw mt mrim mjn mhm mpn mbm mgm y_mpi mst mam mac mro mbe mhi mmi mgr mtr mle) H → va_D A (wdM cJ cI oM oM1 oM2 oM3 oM4 oM5 oM6 oM7 oM8 oM9 oM10 oM11 mw mt mrim mjn mhm mpn mbm mgm y_mpi mst mam mac mro mbe mhi mmi mgr mtr mle) → va_S A s.heap H locs → W p l e R s m args below meth c H locs cells slots Q (F0 m pc ls [.int r])) : W p l e R s m args below meth c H locs cells slots Q (F0 m 0 ls []) := by
  unfold mX8_act at hm
  refine lv_iload_n hx hb dX8_act_0 rfl (lv_at hl 1 rfl) ?_
  refine kX8_isPicture ⟨hx, hb, hml, hown, hts⟩ qw_101 hl.1 ⟨Nat.le_trans (by decide) hR.1, Nat.le_trans (by decide) hR.2.1, hR.2.2⟩ (Nat.le_of_ble_eq_true rfl) dX8_act_1 ?_
  refine lv_if_ne (tgt := 9) hx hb dX8_act_4 (by decide) (fun c2 => ?_) (fun c2 => ?_)
  · rw [if_neg c2] at hm
    refine lv_iload_n hx hb dX8_act_9 rfl (lv_at hl 2 rfl) ?_
    refine kX8_isAct ⟨hx, hb, hml, hown, hts⟩ qw_110 hl.1 ⟨Nat.le_trans (by decide) hR.1, Nat.le_trans (by decide) hR.2.1, hR.2.2⟩ (Nat.le_of_ble_eq_true rfl) dX8_act_10 ?_
    refine lv_if_ne (tgt := 19) hx hb dX8_act_13 (by decide) (fun c4 => ?_) (fun c4 => ?_)
    · rw [if_neg c4] at hm
      refine lv_aload_n hx hb dX8_act_19 rfl (lv_at hl 0 rfl) ?_
      refine va_get (D := D) (ci := 8) (v := .ref oM1) (C := RX8) (T := TX8) (N := 19) hx hb hts tnX8 hown hK hP 0 rfl rfl 2 (by decide) (hts _ qw_103) (fun _ h9 => h9) rfl dX8_act_20 ?_
      refine lv_iload_n hx hb dX8_act_23 rfl (lv_at hl 1 rfl) ?_
      refine lv_aload_n hx hb dX8_act_24 rfl (lv_at hl 0 rfl) ?_
      refine lv_aload_n hx hb dX8_act_25 rfl (lv_at hl 0 rfl) ?_
      refine va_get (D := D) (ci := 8) (v := .ref oM1) (C := RX8) (T := TX8) (N := 19) hx hb hts tnX8 hown hK hP 0 rfl rfl 2 (by decide) (hts _ qw_103) (fun _ h9 => h9) rfl dX8_act_26 ?_
      refine lv_iload_n hx hb dX8_act_29 rfl (lv_at hl 1 rfl) ?_
      obtain ⟨g5, hm⟩ := gd_out hm
      refine va_lald hx hb hK hP 1 1 rfl rfl g5 dX8_act_30 ?_
      refine lv_iload_n hx hb dX8_act_31 rfl (lv_at hl 2 rfl) ?_
      obtain ⟨r6, h7, hm⟩ := jb_out hm
      refine kX8_acted ⟨hx, hb, hml, hown, hts⟩ qw_111 hP hK h7 hl.1 ⟨Nat.le_trans (by decide) hR.1, Nat.le_trans (by decide) hR.2.1, hR.2.2⟩ (Nat.le_of_ble_eq_true rfl) dX8_act_32 ?_
      obtain ⟨g8, hm⟩ := gd_out hm
      refine va_last hx hb hK hP hD hS 1 1 rfl rfl g8 dX8_act_35 (fun H locs hP hD hS => ?_)
      have hP : va_P D vwCl (wdM cJ cI oM oM1 oM2 oM3 oM4 oM5 oM6 oM7 oM8 oM9 oM10 oM11 mw mt mrim mjn mhm mpn mbm mgm (vp_updL mpi a1.toNatClampNeg r6) mst mam mac mro mbe mhi mmi mgr mtr mle) H := hP
      have hD : va_D A (wdM cJ cI oM oM1 oM2 oM3 oM4 oM5 oM6 oM7 oM8 oM9 oM10 oM11 mw mt mrim mjn mhm mpn mbm mgm (vp_updL mpi a1.toNatClampNeg r6) mst mam mac mro mbe mhi mmi mgr mtr mle) := hD
      refine lv_aload_n hx hb dX8_act_36 rfl (lv_at hl 0 rfl) ?_
      refine va_get (D := D) (ci := 8) (v := .ref oM1) (C := RX8) (T := TX8) (N := 19) hx hb hts tnX8 hown hK hP 0 rfl rfl 2 (by decide) (hts _ qw_103) (fun _ h9 => h9) rfl dX8_act_37 ?_
      refine lv_iload_n hx hb dX8_act_40 rfl (lv_at hl 1 rfl) ?_
      obtain ⟨g9, hm⟩ := gd_out hm
      refine va_lald hx hb hK hP 1 1 rfl rfl g9 dX8_act_41 ?_
      obtain ⟨r10, h11, hm⟩ := jb_out hm
      refine kX8_many ⟨hx, hb, hml, hown, hts⟩ qw_112 h11 hl.1 ⟨Nat.le_trans (by decide) hR.1, Nat.le_trans (by decide) hR.2.1, hR.2.2⟩ (Nat.le_of_ble_eq_true rfl) dX8_act_42 ?_
      have hm := Option.some.inj hm
      have e9 : r = r10 := (congrArg (fun q => q.1) hm).symm
      rw [e9] at K
      have e9 : y_mpi = (vp_updL mpi a1.toNatClampNeg r6) := (congrArg (fun q => q.2) hm).symm
      rw [e9] at K
      exact K 45 ls _ _ dX8_act_45 hP hD hS
    · rw [if_pos c4] at hm
      refine lv_bipush (v := (-2 : Int32)) hx hb dX8_act_16 (by decide) ?_
      have hm := Option.some.inj hm
      have e9 : r = (-2 : Int32) := (congrArg (fun q => q.1) hm).symm
      rw [e9] at K
      have e9 : y_mpi = mpi := (congrArg (fun q => q.2) hm).symm
      rw [e9] at K
      exact K 18 ls _ _ dX8_act_18 hP hD hS
  · rw [if_pos c2] at hm
    refine lv_iconst (v := (-1 : Int32)) hx hb dX8_act_7 (by decide) ?_
    have hm := Option.some.inj hm
    have e9 : r = (-1 : Int32) := (congrArg (fun q => q.1) hm).symm
    rw [e9] at K
    have e9 : y_mpi = mpi := (congrArg (fun q => q.2) hm).symm
    rw [e9] at K
    exact K 8 ls _ _ dX8_act_8 hP hD hS
set_option maxHeartbeats 4000000 in
set_option maxRecDepth 100000 in
theorem tX8_act (l : Launch) {D : va_G} (sz : Nat) {n : Nat} {a1 : Int32} {a2 : Int32} {r : Int32} {y_mpi : (Nat → Int64)} (hm : mX8_act n mpi mst mw mt mrim a1 a2 = some (r, y_mpi)) : Met l yX8_act (.code yX8_act cX8_act 3 (some .int) :: tw) ({ frames := 4, cells := 0, slots := 0, locals := 102 } : Room) (wrP D [.ref oM, .int a1, .int a2] (wdM cJ cI oM oM1 oM2 oM3 oM4 oM5 oM6 oM7 oM8 oM9 oM10 oM11 mw mt mrim mjn mhm mpn mbm mgm mpi mst mam mac mro mbe mhi mmi mgr mtr mle) [(cI, .int), (cJ, .long)] sz) (va_Qi (fun q (_ : Unit) => q = r) (fun (_ : Unit) (t : State) => va_P D vwCl (wdM cJ cI oM oM1 oM2 oM3 oM4 oM5 oM6 oM7 oM8 oM9 oM10 oM11 mw mt mrim mjn mhm mpn mbm mgm y_mpi mst mam mac mro mbe mhi mmi mgr mtr mle) t.heap ∧ va_K D vwCl [(cI, .int), (cJ, .long)] t ∧ va_D (va_A (wdM cJ cI oM oM1 oM2 oM3 oM4 oM5 oM6 oM7 oM8 oM9 oM10 oM11 mw mt mrim mjn mhm mpn mbm mgm mpi mst mam mac mro mbe mhi mmi mgr mtr mle) sz) (wdM cJ cI oM oM1 oM2 oM3 oM4 oM5 oM6 oM7 oM8 oM9 oM10 oM11 mw mt mrim mjn mhm mpn mbm mgm y_mpi mst mam mac mro mbe mhi mmi mgr mtr mle)) (va_A (wdM cJ cI oM oM1 oM2 oM3 oM4 oM5 oM6 oM7 oM8 oM9 oM10 oM11 mw mt mrim mjn mhm mpn mbm mgm mpi mst mam mac mro mbe mhi mmi mgr mtr mle) sz)) 0 0 (va_A (wdM cJ cI oM oM1 oM2 oM3 oM4 oM5 oM6 oM7 oM8 oM9 oM10 oM11 mw mt mrim mjn mhm mpn mbm mgm mpi mst mam mac mro mbe mhi mmi mgr mtr mle) sz) := by
  refine Met.ofW (cc := cX8_act) (maxL := 3) (ret := (some .int)) (by decide) rfl ?_
  intro p e s m args below meth c s₁ B hml hv
  obtain ⟨rfl, hsz, hP, hK, hD0⟩ := hv
  have hx := B.exec
  have hb := B.bytes
  have hr := B.returns
  have hts : ∀ w ∈ tw, w.before _ s = true := fun w h => atoms_spec (ws := .code yX8_act cX8_act 3 (some .int) :: tw) B.pre w (List.mem_cons_of_mem _ h)
  have hown : s.vm.findClass RX8 = some m.cls := findClass_of_methodNamed B.named
  have hlocks := B.notSynchronized
  subst hsz
  have hD := hD0.self (sz := s.heap.size)
  have hl := lv_entry ([.ref oM, .int a1, .int a2]) (n := 3) (Nat.le_of_ble_eq_true rfl)
  rw [lg_entry_eq]
  generalize (lg_sl ([.ref oM, .int a1, .int a2]) ++ List.replicate (3 - (lg_sl ([.ref oM, .int a1, .int a2])).length) Slot.unset).toArray = ls at hl ⊢
  refine bX8_act hx hb hml hown hts hK (fun q h => Or.inr h) ⟨Nat.le_of_ble_eq_true rfl, Nat.le_of_ble_eq_true rfl, Nat.zero_le _, Nat.zero_le _⟩ hm ls hl hP hD va_S.rf (fun pc ls H locs hd hP hD hS => ?_)
  exact W.iret hx hb hr (fun t ht hW => ⟨⟨r, (), rfl, rfl, by rw [ht]; exact hP, va_K.moved hW.alike hK, hD⟩, hS.F ht⟩) hS.2.2 hd
set_option maxHeartbeats 4000000 in
set_option maxRecDepth 100000 in
theorem kX8_act {own : String} {cc : ByteArray} {nL idx pc : Nat} {ls : Array Slot} {rest : List Value} {ws wr : va_W} {n : Nat} {a1 : Int32} {a2 : Int32} {r : Int32} {y_mpi : (Nat → Int64)} (fx : CallFix p m c cc nL s args tw own) (hq : Cond.methodLink own idx yX8_act ∈ tw) (isC isR : List Nat) (hC : isC.map (fun i => ws[i]?) = ((wdM cJ cI oM oM1 oM2 oM3 oM4 oM5 oM6 oM7 oM8 oM9 oM10 oM11 mw mt mrim mjn mhm mpn mbm mgm mpi mst mam mac mro mbe mhi mmi mgr mtr mle) : va_W).map some) (hRr : isR.map (fun i => ws[i]?) = wr.map some) (hnC : va_nd isC = true) (hn : va_nd isR = true) (hdis : ∀ i ∈ isR, i ∉ isC) (hK : va_K D vwCl [(cI, .int), (cJ, .long)] s) (hm : mX8_act n mpi mst mw mt mrim a1 a2 = some (r, y_mpi)) (hsz : ls.size = nL) (hR : 5 ≤ R.frames ∧ 124 ≤ R.locals ∧ cells ≤ R.cells ∧ slots ≤ R.slots) (hst : (rest.map fun v => v.category).sum ≤ 8) (hd : decode cc pc = .ok (.invokevirtual idx, 3)) (hP : va_P D vwCl ws H) (hD : va_D A ws) (hS : va_S A s.heap H locs) (hA : ∀ q, s.heap.size ≤ q → A q) (kk : ∀ (H : Heap) (locs : List Loc), va_P D vwCl (wr ++ (wdM cJ cI oM oM1 oM2 oM3 oM4 oM5 oM6 oM7 oM8 oM9 oM10 oM11 mw mt mrim mjn mhm mpn mbm mgm y_mpi mst mam mac mro mbe mhi mmi mgr mtr mle)) H → va_D A (wr ++ (wdM cJ cI oM oM1 oM2 oM3 oM4 oM5 oM6 oM7 oM8 oM9 oM10 oM11 mw mt mrim mjn mhm mpn mbm mgm y_mpi mst mam mac mro mbe mhi mmi mgr mtr mle)) → va_S A s.heap H locs → W p l e R s m args below meth c H locs cells slots Q (F0 m (pc + 3) ls (.int r :: rest))) : W p l e R s m args below meth c H locs cells slots Q (F0 m pc ls (.int a2 :: .int a1 :: .ref oM :: rest)) := by
  have hPc := va_P.subM hP isC hC
  have hDc := hD.sub isC hnC hC
  have hFc := va_free (wc := (wdM cJ cI oM oM1 oM2 oM3 oM4 oM5 oM6 oM7 oM8 oM9 oM10 oM11 mw mt mrim mjn mhm mpn mbm mgm mpi mst mam mac mro mbe mhi mmi mgr mtr mle)) hD hS hA isC hC
  refine va_calli (va_runV (As := [.int a1, .int a2]) (rest := rest) fx (tX8_act l H.size hm) (cwV 2 fx.2.2.2.2 (tw_V hq qw_472 qw_473 qw_53 qw_474) rfl rfl rfl (by decide +kernel) ⟨hR.1, hR.2.1⟩) ⟨wrP_bl, va_recv hK hPc (ci := 8) (q0 := 0) rfl rfl, wrP_ok hPc hK hDc⟩ rfl rfl hsz rfl (lv_room hst) hd ⟨hR.2.2.1, hR.2.2.2⟩) hS (fun q _ h => hFc q h) hFc (fun r9 u t H1 locs ht hvm hw hB hz1 hk1 hS => ?_)
  obtain ⟨hP1, hK1, hD1⟩ := hB
  rw [ht] at hP1
  rw [hw]
  obtain ⟨hP2, hD2⟩ := va_join (wr := wr) (w1 := (wdM cJ cI oM oM1 oM2 oM3 oM4 oM5 oM6 oM7 oM8 oM9 oM10 oM11 mw mt mrim mjn mhm mpn mbm mgm y_mpi mst mam mac mro mbe mhi mmi mgr mtr mle)) hP hD isC isR hC hRr hn hdis hk1 hFc hP1 hD1
  exact kk H1 locs hP2 hD2 hS
-- X8_add
def mX8_add (mam : Nat → Int32) (mac : Nat → Int32) (a1 : Int32) (a2 : Int32) : Option (Int32 × (Nat → Int32) × (Nat → Int32)) :=
  (if (mX8_isProgram a1) = 0 then (some ((-1 : Int32), mam, mac)) else (if (mX8_isAct a2) = 0 then (some ((-2 : Int32), mam, mac)) else gd (ib a1 3) ((if (mam a1.toNatClampNeg) = (8 : Int32) then (some ((-4 : Int32), mam, mac)) else gd (ib a1 3) (gd (ib (((8 : Int32) * a1) + (mam a1.toNatClampNeg)) 24) (gd (ib a1 3) (gd (ib a1 3) (gd (ib a1 3) ((some (((upd mam a1.toNatClampNeg ((mam a1.toNatClampNeg) + (1 : Int32))) a1.toNatClampNeg), (upd mam a1.toNatClampNeg ((mam a1.toNatClampNeg) + (1 : Int32))), (upd mac (((8 : Int32) * a1) + (mam a1.toNatClampNeg)).toNatClampNeg a2))))))))))))
theorem dX8_add_0 : decode cX8_add 0 = .ok (.iload_n 1, 1) := by decide +kernel
theorem dX8_add_1 : decode cX8_add 1 = .ok (.invokestatic 119, 3) := by decide +kernel
theorem dX8_add_4 : decode cX8_add 4 = .ok (.ifCond .ne 5, 3) := by decide +kernel
theorem dX8_add_7 : decode cX8_add 7 = .ok (.iconst (-1), 1) := by decide +kernel
theorem dX8_add_8 : decode cX8_add 8 = .ok (.ireturn, 1) := by decide +kernel
theorem dX8_add_9 : decode cX8_add 9 = .ok (.iload_n 2, 1) := by decide +kernel
theorem dX8_add_10 : decode cX8_add 10 = .ok (.invokestatic 113, 3) := by decide +kernel
theorem dX8_add_13 : decode cX8_add 13 = .ok (.ifCond .ne 6, 3) := by decide +kernel
theorem dX8_add_16 : decode cX8_add 16 = .ok (.bipush (-2), 2) := by decide +kernel
theorem dX8_add_18 : decode cX8_add 18 = .ok (.ireturn, 1) := by decide +kernel
theorem dX8_add_19 : decode cX8_add 19 = .ok (.aload_n 0, 1) := by decide +kernel
theorem dX8_add_20 : decode cX8_add 20 = .ok (.getfield 30, 3) := by decide +kernel
theorem dX8_add_23 : decode cX8_add 23 = .ok (.iload_n 1, 1) := by decide +kernel
theorem dX8_add_24 : decode cX8_add 24 = .ok (.iaload, 1) := by decide +kernel
theorem dX8_add_25 : decode cX8_add 25 = .ok (.bipush 8, 2) := by decide +kernel
theorem dX8_add_27 : decode cX8_add 27 = .ok (.if_icmp .ne 6, 3) := by decide +kernel
theorem dX8_add_30 : decode cX8_add 30 = .ok (.bipush (-4), 2) := by decide +kernel
theorem dX8_add_32 : decode cX8_add 32 = .ok (.ireturn, 1) := by decide +kernel
theorem dX8_add_33 : decode cX8_add 33 = .ok (.aload_n 0, 1) := by decide +kernel
theorem dX8_add_34 : decode cX8_add 34 = .ok (.getfield 33, 3) := by decide +kernel
theorem dX8_add_37 : decode cX8_add 37 = .ok (.bipush 8, 2) := by decide +kernel
theorem dX8_add_39 : decode cX8_add 39 = .ok (.iload_n 1, 1) := by decide +kernel
theorem dX8_add_40 : decode cX8_add 40 = .ok (.imul, 1) := by decide +kernel
theorem dX8_add_41 : decode cX8_add 41 = .ok (.aload_n 0, 1) := by decide +kernel
theorem dX8_add_42 : decode cX8_add 42 = .ok (.getfield 30, 3) := by decide +kernel
theorem dX8_add_45 : decode cX8_add 45 = .ok (.iload_n 1, 1) := by decide +kernel
theorem dX8_add_46 : decode cX8_add 46 = .ok (.iaload, 1) := by decide +kernel
theorem dX8_add_47 : decode cX8_add 47 = .ok (.iadd, 1) := by decide +kernel
theorem dX8_add_48 : decode cX8_add 48 = .ok (.iload_n 2, 1) := by decide +kernel
theorem dX8_add_49 : decode cX8_add 49 = .ok (.iastore, 1) := by decide +kernel
theorem dX8_add_50 : decode cX8_add 50 = .ok (.aload_n 0, 1) := by decide +kernel
theorem dX8_add_51 : decode cX8_add 51 = .ok (.getfield 30, 3) := by decide +kernel
theorem dX8_add_54 : decode cX8_add 54 = .ok (.iload_n 1, 1) := by decide +kernel
theorem dX8_add_55 : decode cX8_add 55 = .ok (.dup2, 1) := by decide +kernel
theorem dX8_add_56 : decode cX8_add 56 = .ok (.iaload, 1) := by decide +kernel
theorem dX8_add_57 : decode cX8_add 57 = .ok (.iconst 1, 1) := by decide +kernel
theorem dX8_add_58 : decode cX8_add 58 = .ok (.iadd, 1) := by decide +kernel
theorem dX8_add_59 : decode cX8_add 59 = .ok (.iastore, 1) := by decide +kernel
theorem dX8_add_60 : decode cX8_add 60 = .ok (.aload_n 0, 1) := by decide +kernel
theorem dX8_add_61 : decode cX8_add 61 = .ok (.getfield 30, 3) := by decide +kernel
theorem dX8_add_64 : decode cX8_add 64 = .ok (.iload_n 1, 1) := by decide +kernel
theorem dX8_add_65 : decode cX8_add 65 = .ok (.iaload, 1) := by decide +kernel
theorem dX8_add_66 : decode cX8_add 66 = .ok (.ireturn, 1) := by decide +kernel
set_option maxHeartbeats 4000000 in
set_option maxRecDepth 100000 in
theorem bX8_add {a1 : Int32} {a2 : Int32} {r : Int32} {y_mam : (Nat → Int32)} {y_mac : (Nat → Int32)} (hx : p.tables.exec = Jvm.exec) (hb : c.code = cX8_add) (hml : c.maxLocals = 3) (hown : s.vm.findClass RX8 = some m.cls) (hts : ∀ w ∈ tw, w.before args s = true) (hK : va_K D vwCl [(cI, .int), (cJ, .long)] s) (hA : ∀ q, s.heap.size ≤ q → A q) (hR : 2 ≤ R.frames ∧ 45 ≤ R.locals ∧ cells ≤ R.cells ∧ slots ≤ R.slots) (hm : mX8_add mam mac a1 a2 = some (r, y_mam, y_mac)) (ls : Array Slot) (hl : lv_has ls 3 [(0, .ref oM), (1, .int a1), (2, .int a2)]) (hP : va_P D vwCl (wdM cJ cI oM oM1 oM2 oM3 oM4 oM5 oM6 oM7 oM8 oM9 oM10 oM11 mw mt mrim mjn mhm mpn mbm mgm mpi mst mam mac mro mbe mhi mmi mgr mtr mle) H) (hD : va_D A (wdM cJ cI oM oM1 oM2 oM3 oM4 oM5 oM6 oM7 oM8 oM9 oM10 oM11 mw mt mrim mjn mhm mpn mbm mgm mpi mst mam mac mro mbe mhi mmi mgr mtr mle)) (hS : va_S A s.heap H locs) (K : ∀ (pc : Nat) (ls : Array Slot) (H : Heap) (locs : List Loc), decode cX8_add pc = .ok (.ireturn, 1) → va_P D vwCl (wdM cJ cI oM oM1 oM2 oM3 oM4 oM5 oM6 oM7 oM8 oM9 oM10 oM11 mw mt mrim mjn mhm mpn mbm mgm mpi mst y_mam y_mac mro mbe mhi mmi mgr mtr mle) H → va_D A (wdM cJ cI oM oM1 oM2 oM3 oM4 oM5 oM6 oM7 oM8 oM9 oM10 oM11 mw mt mrim mjn mhm mpn mbm mgm mpi mst y_mam y_mac mro mbe mhi mmi mgr mtr mle) → va_S A s.heap H locs → W p l e R s m args below meth c H locs cells slots Q (F0 m pc ls [.int r])) : W p l e R s m args below meth c H locs cells slots Q (F0 m 0 ls []) := by
  unfold mX8_add at hm
  refine lv_iload_n hx hb dX8_add_0 rfl (lv_at hl 1 rfl) ?_
  refine kX8_isProgram ⟨hx, hb, hml, hown, hts⟩ qw_126 hl.1 ⟨Nat.le_trans (by decide) hR.1, Nat.le_trans (by decide) hR.2.1, hR.2.2⟩ (Nat.le_of_ble_eq_true rfl) dX8_add_1 ?_
  refine lv_if_ne (tgt := 9) hx hb dX8_add_4 (by decide) (fun c2 => ?_) (fun c2 => ?_)
  · rw [if_neg c2] at hm
    refine lv_iload_n hx hb dX8_add_9 rfl (lv_at hl 2 rfl) ?_
    refine kX8_isAct ⟨hx, hb, hml, hown, hts⟩ qw_110 hl.1 ⟨Nat.le_trans (by decide) hR.1, Nat.le_trans (by decide) hR.2.1, hR.2.2⟩ (Nat.le_of_ble_eq_true rfl) dX8_add_10 ?_
    refine lv_if_ne (tgt := 19) hx hb dX8_add_13 (by decide) (fun c4 => ?_) (fun c4 => ?_)
    · rw [if_neg c4] at hm
      refine lv_aload_n hx hb dX8_add_19 rfl (lv_at hl 0 rfl) ?_
      refine va_get (D := D) (ci := 8) (v := .ref oM3) (C := RX8) (T := TX8) (N := 19) hx hb hts tnX8 hown hK hP 0 rfl rfl 6 (by decide) (hts _ qw_119) (fun _ h9 => h9) rfl dX8_add_20 ?_
      refine lv_iload_n hx hb dX8_add_23 rfl (lv_at hl 1 rfl) ?_
      obtain ⟨g5, hm⟩ := gd_out hm
      refine va_iald hx hb hK hP 3 0 rfl rfl g5 dX8_add_24 ?_
      refine lv_bipush (v := (8 : Int32)) hx hb dX8_add_25 (by decide) ?_
      refine lv_icmp_ne (tgt := 33) hx hb dX8_add_27 (by decide) (fun c6 => ?_) (fun c6 => ?_)
      · rw [if_neg c6] at hm
        refine lv_aload_n hx hb dX8_add_33 rfl (lv_at hl 0 rfl) ?_
        refine va_get (D := D) (ci := 8) (v := .ref oM4) (C := RX8) (T := TX8) (N := 19) hx hb hts tnX8 hown hK hP 0 rfl rfl 7 (by decide) (hts _ qw_120) (fun _ h9 => h9) rfl dX8_add_34 ?_
        refine lv_bipush (v := (8 : Int32)) hx hb dX8_add_37 (by decide) ?_
        refine lv_iload_n hx hb dX8_add_39 rfl (lv_at hl 1 rfl) ?_
        refine lv_imul hx hb dX8_add_40 ?_
        refine lv_aload_n hx hb dX8_add_41 rfl (lv_at hl 0 rfl) ?_
        refine va_get (D := D) (ci := 8) (v := .ref oM3) (C := RX8) (T := TX8) (N := 19) hx hb hts tnX8 hown hK hP 0 rfl rfl 6 (by decide) (hts _ qw_119) (fun _ h9 => h9) rfl dX8_add_42 ?_
        refine lv_iload_n hx hb dX8_add_45 rfl (lv_at hl 1 rfl) ?_
        obtain ⟨g7, hm⟩ := gd_out hm
        refine va_iald hx hb hK hP 3 0 rfl rfl g7 dX8_add_46 ?_
        refine lv_iadd hx hb dX8_add_47 ?_
        refine lv_iload_n hx hb dX8_add_48 rfl (lv_at hl 2 rfl) ?_
        obtain ⟨g8, hm⟩ := gd_out hm
        refine va_iast hx hb hK hP hD hS 4 0 rfl rfl g8 dX8_add_49 (fun H locs hP hD hS => ?_)
        have hP : va_P D vwCl (wdM cJ cI oM oM1 oM2 oM3 oM4 oM5 oM6 oM7 oM8 oM9 oM10 oM11 mw mt mrim mjn mhm mpn mbm mgm mpi mst mam (upd mac (((8 : Int32) * a1) + (mam a1.toNatClampNeg)).toNatClampNeg a2) mro mbe mhi mmi mgr mtr mle) H := hP
        have hD : va_D A (wdM cJ cI oM oM1 oM2 oM3 oM4 oM5 oM6 oM7 oM8 oM9 oM10 oM11 mw mt mrim mjn mhm mpn mbm mgm mpi mst mam (upd mac (((8 : Int32) * a1) + (mam a1.toNatClampNeg)).toNatClampNeg a2) mro mbe mhi mmi mgr mtr mle) := hD
        refine lv_aload_n hx hb dX8_add_50 rfl (lv_at hl 0 rfl) ?_
        refine va_get (D := D) (ci := 8) (v := .ref oM3) (C := RX8) (T := TX8) (N := 19) hx hb hts tnX8 hown hK hP 0 rfl rfl 6 (by decide) (hts _ qw_119) (fun _ h9 => h9) rfl dX8_add_51 ?_
        refine lv_iload_n hx hb dX8_add_54 rfl (lv_at hl 1 rfl) ?_
        refine lv_dup2_11 hx hb dX8_add_55 rfl rfl ?_
        obtain ⟨g9, hm⟩ := gd_out hm
        refine va_iald hx hb hK hP 3 0 rfl rfl g9 dX8_add_56 ?_
        refine lv_iconst (v := (1 : Int32)) hx hb dX8_add_57 (by decide) ?_
        refine lv_iadd hx hb dX8_add_58 ?_
        obtain ⟨g10, hm⟩ := gd_out hm
        refine va_iast hx hb hK hP hD hS 3 0 rfl rfl g10 dX8_add_59 (fun H locs hP hD hS => ?_)
        have hP : va_P D vwCl (wdM cJ cI oM oM1 oM2 oM3 oM4 oM5 oM6 oM7 oM8 oM9 oM10 oM11 mw mt mrim mjn mhm mpn mbm mgm mpi mst (upd mam a1.toNatClampNeg ((mam a1.toNatClampNeg) + (1 : Int32))) (upd mac (((8 : Int32) * a1) + (mam a1.toNatClampNeg)).toNatClampNeg a2) mro mbe mhi mmi mgr mtr mle) H := hP
        have hD : va_D A (wdM cJ cI oM oM1 oM2 oM3 oM4 oM5 oM6 oM7 oM8 oM9 oM10 oM11 mw mt mrim mjn mhm mpn mbm mgm mpi mst (upd mam a1.toNatClampNeg ((mam a1.toNatClampNeg) + (1 : Int32))) (upd mac (((8 : Int32) * a1) + (mam a1.toNatClampNeg)).toNatClampNeg a2) mro mbe mhi mmi mgr mtr mle) := hD
        refine lv_aload_n hx hb dX8_add_60 rfl (lv_at hl 0 rfl) ?_
        refine va_get (D := D) (ci := 8) (v := .ref oM3) (C := RX8) (T := TX8) (N := 19) hx hb hts tnX8 hown hK hP 0 rfl rfl 6 (by decide) (hts _ qw_119) (fun _ h9 => h9) rfl dX8_add_61 ?_
        refine lv_iload_n hx hb dX8_add_64 rfl (lv_at hl 1 rfl) ?_
        obtain ⟨g11, hm⟩ := gd_out hm
        refine va_iald hx hb hK hP 3 0 rfl rfl g11 dX8_add_65 ?_
        have hm := Option.some.inj hm
        have e9 : r = ((upd mam a1.toNatClampNeg ((mam a1.toNatClampNeg) + (1 : Int32))) a1.toNatClampNeg) := (congrArg (fun q => q.1) hm).symm
        rw [e9] at K
        have e9 : y_mam = (upd mam a1.toNatClampNeg ((mam a1.toNatClampNeg) + (1 : Int32))) := (congrArg (fun q => q.2.1) hm).symm
        rw [e9] at K
        have e9 : y_mac = (upd mac (((8 : Int32) * a1) + (mam a1.toNatClampNeg)).toNatClampNeg a2) := (congrArg (fun q => q.2.2) hm).symm
        rw [e9] at K
        exact K 66 ls _ _ dX8_add_66 hP hD hS
      · rw [if_pos c6] at hm
        refine lv_bipush (v := (-4 : Int32)) hx hb dX8_add_30 (by decide) ?_
        have hm := Option.some.inj hm
        have e9 : r = (-4 : Int32) := (congrArg (fun q => q.1) hm).symm
        rw [e9] at K
        have e9 : y_mam = mam := (congrArg (fun q => q.2.1) hm).symm
        rw [e9] at K
        have e9 : y_mac = mac := (congrArg (fun q => q.2.2) hm).symm
        rw [e9] at K
        exact K 32 ls _ _ dX8_add_32 hP hD hS
    · rw [if_pos c4] at hm
      refine lv_bipush (v := (-2 : Int32)) hx hb dX8_add_16 (by decide) ?_
      have hm := Option.some.inj hm
      have e9 : r = (-2 : Int32) := (congrArg (fun q => q.1) hm).symm
      rw [e9] at K
      have e9 : y_mam = mam := (congrArg (fun q => q.2.1) hm).symm
      rw [e9] at K
      have e9 : y_mac = mac := (congrArg (fun q => q.2.2) hm).symm
      rw [e9] at K
      exact K 18 ls _ _ dX8_add_18 hP hD hS
  · rw [if_pos c2] at hm
    refine lv_iconst (v := (-1 : Int32)) hx hb dX8_add_7 (by decide) ?_
    have hm := Option.some.inj hm
    have e9 : r = (-1 : Int32) := (congrArg (fun q => q.1) hm).symm
    rw [e9] at K
    have e9 : y_mam = mam := (congrArg (fun q => q.2.1) hm).symm
    rw [e9] at K
    have e9 : y_mac = mac := (congrArg (fun q => q.2.2) hm).symm
    rw [e9] at K
    exact K 8 ls _ _ dX8_add_8 hP hD hS
set_option maxHeartbeats 4000000 in
set_option maxRecDepth 100000 in
theorem tX8_add (l : Launch) {D : va_G} (sz : Nat) {a1 : Int32} {a2 : Int32} {r : Int32} {y_mam : (Nat → Int32)} {y_mac : (Nat → Int32)} (hm : mX8_add mam mac a1 a2 = some (r, y_mam, y_mac)) : Met l yX8_add (.code yX8_add cX8_add 3 (some .int) :: tw) ({ frames := 2, cells := 0, slots := 0, locals := 45 } : Room) (wrP D [.ref oM, .int a1, .int a2] (wdM cJ cI oM oM1 oM2 oM3 oM4 oM5 oM6 oM7 oM8 oM9 oM10 oM11 mw mt mrim mjn mhm mpn mbm mgm mpi mst mam mac mro mbe mhi mmi mgr mtr mle) [(cI, .int), (cJ, .long)] sz) (va_Qi (fun q (_ : Unit) => q = r) (fun (_ : Unit) (t : State) => va_P D vwCl (wdM cJ cI oM oM1 oM2 oM3 oM4 oM5 oM6 oM7 oM8 oM9 oM10 oM11 mw mt mrim mjn mhm mpn mbm mgm mpi mst y_mam y_mac mro mbe mhi mmi mgr mtr mle) t.heap ∧ va_K D vwCl [(cI, .int), (cJ, .long)] t ∧ va_D (va_A (wdM cJ cI oM oM1 oM2 oM3 oM4 oM5 oM6 oM7 oM8 oM9 oM10 oM11 mw mt mrim mjn mhm mpn mbm mgm mpi mst mam mac mro mbe mhi mmi mgr mtr mle) sz) (wdM cJ cI oM oM1 oM2 oM3 oM4 oM5 oM6 oM7 oM8 oM9 oM10 oM11 mw mt mrim mjn mhm mpn mbm mgm mpi mst y_mam y_mac mro mbe mhi mmi mgr mtr mle)) (va_A (wdM cJ cI oM oM1 oM2 oM3 oM4 oM5 oM6 oM7 oM8 oM9 oM10 oM11 mw mt mrim mjn mhm mpn mbm mgm mpi mst mam mac mro mbe mhi mmi mgr mtr mle) sz)) 0 0 (va_A (wdM cJ cI oM oM1 oM2 oM3 oM4 oM5 oM6 oM7 oM8 oM9 oM10 oM11 mw mt mrim mjn mhm mpn mbm mgm mpi mst mam mac mro mbe mhi mmi mgr mtr mle) sz) := by
  refine Met.ofW (cc := cX8_add) (maxL := 3) (ret := (some .int)) (by decide) rfl ?_
  intro p e s m args below meth c s₁ B hml hv
  obtain ⟨rfl, hsz, hP, hK, hD0⟩ := hv
  have hx := B.exec
  have hb := B.bytes
  have hr := B.returns
  have hts : ∀ w ∈ tw, w.before _ s = true := fun w h => atoms_spec (ws := .code yX8_add cX8_add 3 (some .int) :: tw) B.pre w (List.mem_cons_of_mem _ h)
  have hown : s.vm.findClass RX8 = some m.cls := findClass_of_methodNamed B.named
  have hlocks := B.notSynchronized
  subst hsz
  have hD := hD0.self (sz := s.heap.size)
  have hl := lv_entry ([.ref oM, .int a1, .int a2]) (n := 3) (Nat.le_of_ble_eq_true rfl)
  rw [lg_entry_eq]
  generalize (lg_sl ([.ref oM, .int a1, .int a2]) ++ List.replicate (3 - (lg_sl ([.ref oM, .int a1, .int a2])).length) Slot.unset).toArray = ls at hl ⊢
  refine bX8_add hx hb hml hown hts hK (fun q h => Or.inr h) ⟨Nat.le_of_ble_eq_true rfl, Nat.le_of_ble_eq_true rfl, Nat.zero_le _, Nat.zero_le _⟩ hm ls hl hP hD va_S.rf (fun pc ls H locs hd hP hD hS => ?_)
  exact W.iret hx hb hr (fun t ht hW => ⟨⟨r, (), rfl, rfl, by rw [ht]; exact hP, va_K.moved hW.alike hK, hD⟩, hS.F ht⟩) hS.2.2 hd
set_option maxHeartbeats 4000000 in
set_option maxRecDepth 100000 in
theorem kX8_add {own : String} {cc : ByteArray} {nL idx pc : Nat} {ls : Array Slot} {rest : List Value} {ws wr : va_W} {a1 : Int32} {a2 : Int32} {r : Int32} {y_mam : (Nat → Int32)} {y_mac : (Nat → Int32)} (fx : CallFix p m c cc nL s args tw own) (hq : Cond.methodLink own idx yX8_add ∈ tw) (isC isR : List Nat) (hC : isC.map (fun i => ws[i]?) = ((wdM cJ cI oM oM1 oM2 oM3 oM4 oM5 oM6 oM7 oM8 oM9 oM10 oM11 mw mt mrim mjn mhm mpn mbm mgm mpi mst mam mac mro mbe mhi mmi mgr mtr mle) : va_W).map some) (hRr : isR.map (fun i => ws[i]?) = wr.map some) (hnC : va_nd isC = true) (hn : va_nd isR = true) (hdis : ∀ i ∈ isR, i ∉ isC) (hK : va_K D vwCl [(cI, .int), (cJ, .long)] s) (hm : mX8_add mam mac a1 a2 = some (r, y_mam, y_mac)) (hsz : ls.size = nL) (hR : 3 ≤ R.frames ∧ 67 ≤ R.locals ∧ cells ≤ R.cells ∧ slots ≤ R.slots) (hst : (rest.map fun v => v.category).sum ≤ 8) (hd : decode cc pc = .ok (.invokevirtual idx, 3)) (hP : va_P D vwCl ws H) (hD : va_D A ws) (hS : va_S A s.heap H locs) (hA : ∀ q, s.heap.size ≤ q → A q) (kk : ∀ (H : Heap) (locs : List Loc), va_P D vwCl (wr ++ (wdM cJ cI oM oM1 oM2 oM3 oM4 oM5 oM6 oM7 oM8 oM9 oM10 oM11 mw mt mrim mjn mhm mpn mbm mgm mpi mst y_mam y_mac mro mbe mhi mmi mgr mtr mle)) H → va_D A (wr ++ (wdM cJ cI oM oM1 oM2 oM3 oM4 oM5 oM6 oM7 oM8 oM9 oM10 oM11 mw mt mrim mjn mhm mpn mbm mgm mpi mst y_mam y_mac mro mbe mhi mmi mgr mtr mle)) → va_S A s.heap H locs → W p l e R s m args below meth c H locs cells slots Q (F0 m (pc + 3) ls (.int r :: rest))) : W p l e R s m args below meth c H locs cells slots Q (F0 m pc ls (.int a2 :: .int a1 :: .ref oM :: rest)) := by
  have hPc := va_P.subM hP isC hC
  have hDc := hD.sub isC hnC hC
  have hFc := va_free (wc := (wdM cJ cI oM oM1 oM2 oM3 oM4 oM5 oM6 oM7 oM8 oM9 oM10 oM11 mw mt mrim mjn mhm mpn mbm mgm mpi mst mam mac mro mbe mhi mmi mgr mtr mle)) hD hS hA isC hC
  refine va_calli (va_runV (As := [.int a1, .int a2]) (rest := rest) fx (tX8_add l H.size hm) (cwV 2 fx.2.2.2.2 (tw_V hq qw_475 qw_476 qw_53 qw_477) rfl rfl rfl (by decide +kernel) ⟨hR.1, hR.2.1⟩) ⟨wrP_bl, va_recv hK hPc (ci := 8) (q0 := 0) rfl rfl, wrP_ok hPc hK hDc⟩ rfl rfl hsz rfl (lv_room hst) hd ⟨hR.2.2.1, hR.2.2.2⟩) hS (fun q _ h => hFc q h) hFc (fun r9 u t H1 locs ht hvm hw hB hz1 hk1 hS => ?_)
  obtain ⟨hP1, hK1, hD1⟩ := hB
  rw [ht] at hP1
  rw [hw]
  obtain ⟨hP2, hD2⟩ := va_join (wr := wr) (w1 := (wdM cJ cI oM oM1 oM2 oM3 oM4 oM5 oM6 oM7 oM8 oM9 oM10 oM11 mw mt mrim mjn mhm mpn mbm mgm mpi mst y_mam y_mac mro mbe mhi mmi mgr mtr mle)) hP hD isC isR hC hRr hn hdis hk1 hFc hP1 hD1
  exact kk H1 locs hP2 hD2 hS
-- X8_clear
def mX8_clear (mam : Nat → Int32) (a1 : Int32) : Option (Int32 × (Nat → Int32)) :=
  (if (mX8_isProgram a1) = 0 then (some ((-1 : Int32), mam)) else gd (ib a1 3) (gd (ib a1 3) ((some ((mam a1.toNatClampNeg), (upd mam a1.toNatClampNeg (0 : Int32)))))))
theorem dX8_clear_0 : decode cX8_clear 0 = .ok (.iload_n 1, 1) := by decide +kernel
theorem dX8_clear_1 : decode cX8_clear 1 = .ok (.invokestatic 119, 3) := by decide +kernel
theorem dX8_clear_4 : decode cX8_clear 4 = .ok (.ifCond .ne 5, 3) := by decide +kernel
theorem dX8_clear_7 : decode cX8_clear 7 = .ok (.iconst (-1), 1) := by decide +kernel
theorem dX8_clear_8 : decode cX8_clear 8 = .ok (.ireturn, 1) := by decide +kernel
theorem dX8_clear_9 : decode cX8_clear 9 = .ok (.aload_n 0, 1) := by decide +kernel
theorem dX8_clear_10 : decode cX8_clear 10 = .ok (.getfield 30, 3) := by decide +kernel
theorem dX8_clear_13 : decode cX8_clear 13 = .ok (.iload_n 1, 1) := by decide +kernel
theorem dX8_clear_14 : decode cX8_clear 14 = .ok (.iaload, 1) := by decide +kernel
theorem dX8_clear_15 : decode cX8_clear 15 = .ok (.istore_n 2, 1) := by decide +kernel
theorem dX8_clear_16 : decode cX8_clear 16 = .ok (.aload_n 0, 1) := by decide +kernel
theorem dX8_clear_17 : decode cX8_clear 17 = .ok (.getfield 30, 3) := by decide +kernel
theorem dX8_clear_20 : decode cX8_clear 20 = .ok (.iload_n 1, 1) := by decide +kernel
theorem dX8_clear_21 : decode cX8_clear 21 = .ok (.iconst 0, 1) := by decide +kernel
theorem dX8_clear_22 : decode cX8_clear 22 = .ok (.iastore, 1) := by decide +kernel
theorem dX8_clear_23 : decode cX8_clear 23 = .ok (.iload_n 2, 1) := by decide +kernel
theorem dX8_clear_24 : decode cX8_clear 24 = .ok (.ireturn, 1) := by decide +kernel
set_option maxHeartbeats 4000000 in
set_option maxRecDepth 100000 in
theorem bX8_clear {a1 : Int32} {r : Int32} {y_mam : (Nat → Int32)} (hx : p.tables.exec = Jvm.exec) (hb : c.code = cX8_clear) (hml : c.maxLocals = 3) (hown : s.vm.findClass RX8 = some m.cls) (hts : ∀ w ∈ tw, w.before args s = true) (hK : va_K D vwCl [(cI, .int), (cJ, .long)] s) (hA : ∀ q, s.heap.size ≤ q → A q) (hR : 2 ≤ R.frames ∧ 45 ≤ R.locals ∧ cells ≤ R.cells ∧ slots ≤ R.slots) (hm : mX8_clear mam a1 = some (r, y_mam)) (ls : Array Slot) (hl : lv_has ls 3 [(0, .ref oM), (1, .int a1)]) (hP : va_P D vwCl (wdM cJ cI oM oM1 oM2 oM3 oM4 oM5 oM6 oM7 oM8 oM9 oM10 oM11 mw mt mrim mjn mhm mpn mbm mgm mpi mst mam mac mro mbe mhi mmi mgr mtr mle) H) (hD : va_D A (wdM cJ cI oM oM1 oM2 oM3 oM4 oM5 oM6 oM7 oM8 oM9 oM10 oM11 mw mt mrim mjn mhm mpn mbm mgm mpi mst mam mac mro mbe mhi mmi mgr mtr mle)) (hS : va_S A s.heap H locs) (K : ∀ (pc : Nat) (ls : Array Slot) (H : Heap) (locs : List Loc), decode cX8_clear pc = .ok (.ireturn, 1) → va_P D vwCl (wdM cJ cI oM oM1 oM2 oM3 oM4 oM5 oM6 oM7 oM8 oM9 oM10 oM11 mw mt mrim mjn mhm mpn mbm mgm mpi mst y_mam mac mro mbe mhi mmi mgr mtr mle) H → va_D A (wdM cJ cI oM oM1 oM2 oM3 oM4 oM5 oM6 oM7 oM8 oM9 oM10 oM11 mw mt mrim mjn mhm mpn mbm mgm mpi mst y_mam mac mro mbe mhi mmi mgr mtr mle) → va_S A s.heap H locs → W p l e R s m args below meth c H locs cells slots Q (F0 m pc ls [.int r])) : W p l e R s m args below meth c H locs cells slots Q (F0 m 0 ls []) := by
  unfold mX8_clear at hm
  refine lv_iload_n hx hb dX8_clear_0 rfl (lv_at hl 1 rfl) ?_
  refine kX8_isProgram ⟨hx, hb, hml, hown, hts⟩ qw_126 hl.1 ⟨Nat.le_trans (by decide) hR.1, Nat.le_trans (by decide) hR.2.1, hR.2.2⟩ (Nat.le_of_ble_eq_true rfl) dX8_clear_1 ?_
  refine lv_if_ne (tgt := 9) hx hb dX8_clear_4 (by decide) (fun c2 => ?_) (fun c2 => ?_)
  · rw [if_neg c2] at hm
    refine lv_aload_n hx hb dX8_clear_9 rfl (lv_at hl 0 rfl) ?_
    refine va_get (D := D) (ci := 8) (v := .ref oM3) (C := RX8) (T := TX8) (N := 19) hx hb hts tnX8 hown hK hP 0 rfl rfl 6 (by decide) (hts _ qw_119) (fun _ h9 => h9) rfl dX8_clear_10 ?_
    refine lv_iload_n hx hb dX8_clear_13 rfl (lv_at hl 1 rfl) ?_
    obtain ⟨g3, hm⟩ := gd_out hm
    refine va_iald hx hb hK hP 3 0 rfl rfl g3 dX8_clear_14 ?_
    refine lv_istore_n (lv' := [(2, .int (mam a1.toNatClampNeg)), (0, .ref oM), (1, .int a1)]) hx hb dX8_clear_15 rfl hl (by decide) rfl (fun ls hl => ?_)
    refine lv_aload_n hx hb dX8_clear_16 rfl (lv_at hl 1 rfl) ?_
    refine va_get (D := D) (ci := 8) (v := .ref oM3) (C := RX8) (T := TX8) (N := 19) hx hb hts tnX8 hown hK hP 0 rfl rfl 6 (by decide) (hts _ qw_119) (fun _ h9 => h9) rfl dX8_clear_17 ?_
    refine lv_iload_n hx hb dX8_clear_20 rfl (lv_at hl 2 rfl) ?_
    refine lv_iconst (v := (0 : Int32)) hx hb dX8_clear_21 (by decide) ?_
    obtain ⟨g4, hm⟩ := gd_out hm
    refine va_iast hx hb hK hP hD hS 3 0 rfl rfl g4 dX8_clear_22 (fun H locs hP hD hS => ?_)
    have hP : va_P D vwCl (wdM cJ cI oM oM1 oM2 oM3 oM4 oM5 oM6 oM7 oM8 oM9 oM10 oM11 mw mt mrim mjn mhm mpn mbm mgm mpi mst (upd mam a1.toNatClampNeg (0 : Int32)) mac mro mbe mhi mmi mgr mtr mle) H := hP
    have hD : va_D A (wdM cJ cI oM oM1 oM2 oM3 oM4 oM5 oM6 oM7 oM8 oM9 oM10 oM11 mw mt mrim mjn mhm mpn mbm mgm mpi mst (upd mam a1.toNatClampNeg (0 : Int32)) mac mro mbe mhi mmi mgr mtr mle) := hD
    refine lv_iload_n hx hb dX8_clear_23 rfl (lv_at hl 0 rfl) ?_
    have hm := Option.some.inj hm
    have e9 : r = (mam a1.toNatClampNeg) := (congrArg (fun q => q.1) hm).symm
    rw [e9] at K
    have e9 : y_mam = (upd mam a1.toNatClampNeg (0 : Int32)) := (congrArg (fun q => q.2) hm).symm
    rw [e9] at K
    exact K 24 ls _ _ dX8_clear_24 hP hD hS
  · rw [if_pos c2] at hm
    refine lv_iconst (v := (-1 : Int32)) hx hb dX8_clear_7 (by decide) ?_
    have hm := Option.some.inj hm
    have e9 : r = (-1 : Int32) := (congrArg (fun q => q.1) hm).symm
    rw [e9] at K
    have e9 : y_mam = mam := (congrArg (fun q => q.2) hm).symm
    rw [e9] at K
    exact K 8 ls _ _ dX8_clear_8 hP hD hS
set_option maxHeartbeats 4000000 in
set_option maxRecDepth 100000 in
theorem tX8_clear (l : Launch) {D : va_G} (sz : Nat) {a1 : Int32} {r : Int32} {y_mam : (Nat → Int32)} (hm : mX8_clear mam a1 = some (r, y_mam)) : Met l yX8_clear (.code yX8_clear cX8_clear 3 (some .int) :: tw) ({ frames := 2, cells := 0, slots := 0, locals := 45 } : Room) (wrP D [.ref oM, .int a1] (wdM cJ cI oM oM1 oM2 oM3 oM4 oM5 oM6 oM7 oM8 oM9 oM10 oM11 mw mt mrim mjn mhm mpn mbm mgm mpi mst mam mac mro mbe mhi mmi mgr mtr mle) [(cI, .int), (cJ, .long)] sz) (va_Qi (fun q (_ : Unit) => q = r) (fun (_ : Unit) (t : State) => va_P D vwCl (wdM cJ cI oM oM1 oM2 oM3 oM4 oM5 oM6 oM7 oM8 oM9 oM10 oM11 mw mt mrim mjn mhm mpn mbm mgm mpi mst y_mam mac mro mbe mhi mmi mgr mtr mle) t.heap ∧ va_K D vwCl [(cI, .int), (cJ, .long)] t ∧ va_D (va_A (wdM cJ cI oM oM1 oM2 oM3 oM4 oM5 oM6 oM7 oM8 oM9 oM10 oM11 mw mt mrim mjn mhm mpn mbm mgm mpi mst mam mac mro mbe mhi mmi mgr mtr mle) sz) (wdM cJ cI oM oM1 oM2 oM3 oM4 oM5 oM6 oM7 oM8 oM9 oM10 oM11 mw mt mrim mjn mhm mpn mbm mgm mpi mst y_mam mac mro mbe mhi mmi mgr mtr mle)) (va_A (wdM cJ cI oM oM1 oM2 oM3 oM4 oM5 oM6 oM7 oM8 oM9 oM10 oM11 mw mt mrim mjn mhm mpn mbm mgm mpi mst mam mac mro mbe mhi mmi mgr mtr mle) sz)) 0 0 (va_A (wdM cJ cI oM oM1 oM2 oM3 oM4 oM5 oM6 oM7 oM8 oM9 oM10 oM11 mw mt mrim mjn mhm mpn mbm mgm mpi mst mam mac mro mbe mhi mmi mgr mtr mle) sz) := by
  refine Met.ofW (cc := cX8_clear) (maxL := 3) (ret := (some .int)) (by decide) rfl ?_
  intro p e s m args below meth c s₁ B hml hv
  obtain ⟨rfl, hsz, hP, hK, hD0⟩ := hv
  have hx := B.exec
  have hb := B.bytes
  have hr := B.returns
  have hts : ∀ w ∈ tw, w.before _ s = true := fun w h => atoms_spec (ws := .code yX8_clear cX8_clear 3 (some .int) :: tw) B.pre w (List.mem_cons_of_mem _ h)
  have hown : s.vm.findClass RX8 = some m.cls := findClass_of_methodNamed B.named
  have hlocks := B.notSynchronized
  subst hsz
  have hD := hD0.self (sz := s.heap.size)
  have hl := lv_entry ([.ref oM, .int a1]) (n := 3) (Nat.le_of_ble_eq_true rfl)
  rw [lg_entry_eq]
  generalize (lg_sl ([.ref oM, .int a1]) ++ List.replicate (3 - (lg_sl ([.ref oM, .int a1])).length) Slot.unset).toArray = ls at hl ⊢
  refine bX8_clear hx hb hml hown hts hK (fun q h => Or.inr h) ⟨Nat.le_of_ble_eq_true rfl, Nat.le_of_ble_eq_true rfl, Nat.zero_le _, Nat.zero_le _⟩ hm ls hl hP hD va_S.rf (fun pc ls H locs hd hP hD hS => ?_)
  exact W.iret hx hb hr (fun t ht hW => ⟨⟨r, (), rfl, rfl, by rw [ht]; exact hP, va_K.moved hW.alike hK, hD⟩, hS.F ht⟩) hS.2.2 hd
set_option maxHeartbeats 4000000 in
set_option maxRecDepth 100000 in
theorem kX8_clear {own : String} {cc : ByteArray} {nL idx pc : Nat} {ls : Array Slot} {rest : List Value} {ws wr : va_W} {a1 : Int32} {r : Int32} {y_mam : (Nat → Int32)} (fx : CallFix p m c cc nL s args tw own) (hq : Cond.methodLink own idx yX8_clear ∈ tw) (isC isR : List Nat) (hC : isC.map (fun i => ws[i]?) = ((wdM cJ cI oM oM1 oM2 oM3 oM4 oM5 oM6 oM7 oM8 oM9 oM10 oM11 mw mt mrim mjn mhm mpn mbm mgm mpi mst mam mac mro mbe mhi mmi mgr mtr mle) : va_W).map some) (hRr : isR.map (fun i => ws[i]?) = wr.map some) (hnC : va_nd isC = true) (hn : va_nd isR = true) (hdis : ∀ i ∈ isR, i ∉ isC) (hK : va_K D vwCl [(cI, .int), (cJ, .long)] s) (hm : mX8_clear mam a1 = some (r, y_mam)) (hsz : ls.size = nL) (hR : 3 ≤ R.frames ∧ 67 ≤ R.locals ∧ cells ≤ R.cells ∧ slots ≤ R.slots) (hst : (rest.map fun v => v.category).sum ≤ 8) (hd : decode cc pc = .ok (.invokevirtual idx, 3)) (hP : va_P D vwCl ws H) (hD : va_D A ws) (hS : va_S A s.heap H locs) (hA : ∀ q, s.heap.size ≤ q → A q) (kk : ∀ (H : Heap) (locs : List Loc), va_P D vwCl (wr ++ (wdM cJ cI oM oM1 oM2 oM3 oM4 oM5 oM6 oM7 oM8 oM9 oM10 oM11 mw mt mrim mjn mhm mpn mbm mgm mpi mst y_mam mac mro mbe mhi mmi mgr mtr mle)) H → va_D A (wr ++ (wdM cJ cI oM oM1 oM2 oM3 oM4 oM5 oM6 oM7 oM8 oM9 oM10 oM11 mw mt mrim mjn mhm mpn mbm mgm mpi mst y_mam mac mro mbe mhi mmi mgr mtr mle)) → va_S A s.heap H locs → W p l e R s m args below meth c H locs cells slots Q (F0 m (pc + 3) ls (.int r :: rest))) : W p l e R s m args below meth c H locs cells slots Q (F0 m pc ls (.int a1 :: .ref oM :: rest)) := by
  have hPc := va_P.subM hP isC hC
  have hDc := hD.sub isC hnC hC
  have hFc := va_free (wc := (wdM cJ cI oM oM1 oM2 oM3 oM4 oM5 oM6 oM7 oM8 oM9 oM10 oM11 mw mt mrim mjn mhm mpn mbm mgm mpi mst mam mac mro mbe mhi mmi mgr mtr mle)) hD hS hA isC hC
  refine va_calli (va_runV (As := [.int a1]) (rest := rest) fx (tX8_clear l H.size hm) (cwV 1 fx.2.2.2.2 (tw_V hq qw_478 qw_479 qw_53 qw_480) rfl rfl rfl (by decide +kernel) ⟨hR.1, hR.2.1⟩) ⟨wrP_bl, va_recv hK hPc (ci := 8) (q0 := 0) rfl rfl, wrP_ok hPc hK hDc⟩ rfl rfl hsz rfl (lv_room hst) hd ⟨hR.2.2.1, hR.2.2.2⟩) hS (fun q _ h => hFc q h) hFc (fun r9 u t H1 locs ht hvm hw hB hz1 hk1 hS => ?_)
  obtain ⟨hP1, hK1, hD1⟩ := hB
  rw [ht] at hP1
  rw [hw]
  obtain ⟨hP2, hD2⟩ := va_join (wr := wr) (w1 := (wdM cJ cI oM oM1 oM2 oM3 oM4 oM5 oM6 oM7 oM8 oM9 oM10 oM11 mw mt mrim mjn mhm mpn mbm mgm mpi mst y_mam mac mro mbe mhi mmi mgr mtr mle)) hP hD isC isR hC hRr hn hdis hk1 hFc hP1 hD1
  exact kk H1 locs hP2 hD2 hS
-- X8_run
def mX8_run (n : Nat) (mpi : Nat → Int64) (mam : Nat → Int32) (mst : Nat → Int32) (mw : Int32) (mt : Int32) (mrim : Int32) (mac : Nat → Int32) (a1 : Int32) (a2 : Int32) : Option (Int32 × (Nat → Int64)) :=
  (if (mX8_isProgram a1) = 0 then (some ((-1 : Int32), mpi)) else (if (mX8_isPicture a2) = 0 then (some ((-1 : Int32), mpi)) else gd (ib a2 5) (jb (mX8_ran n mam mst mw mt mrim mac (mpi a2.toNatClampNeg) a1) (fun (r6 : Int64) => gd (ib a2 5) (gd (ib a2 5) (jb (mX8_many n ((vp_updL mpi a2.toNatClampNeg r6) a2.toNatClampNeg)) (fun (r10 : Int32) => (some (r10, (vp_updL mpi a2.toNatClampNeg r6))))))))))
theorem dX8_run_0 : decode cX8_run 0 = .ok (.iload_n 1, 1) := by decide +kernel
theorem dX8_run_1 : decode cX8_run 1 = .ok (.invokestatic 119, 3) := by decide +kernel
theorem dX8_run_4 : decode cX8_run 4 = .ok (.ifCond .eq 10, 3) := by decide +kernel
theorem dX8_run_7 : decode cX8_run 7 = .ok (.iload_n 2, 1) := by decide +kernel
theorem dX8_run_8 : decode cX8_run 8 = .ok (.invokestatic 71, 3) := by decide +kernel
theorem dX8_run_11 : decode cX8_run 11 = .ok (.ifCond .ne 5, 3) := by decide +kernel
theorem dX8_run_14 : decode cX8_run 14 = .ok (.iconst (-1), 1) := by decide +kernel
theorem dX8_run_15 : decode cX8_run 15 = .ok (.ireturn, 1) := by decide +kernel
theorem dX8_run_16 : decode cX8_run 16 = .ok (.aload_n 0, 1) := by decide +kernel
theorem dX8_run_17 : decode cX8_run 17 = .ok (.getfield 16, 3) := by decide +kernel
theorem dX8_run_20 : decode cX8_run 20 = .ok (.iload_n 2, 1) := by decide +kernel
theorem dX8_run_21 : decode cX8_run 21 = .ok (.aload_n 0, 1) := by decide +kernel
theorem dX8_run_22 : decode cX8_run 22 = .ok (.aload_n 0, 1) := by decide +kernel
theorem dX8_run_23 : decode cX8_run 23 = .ok (.getfield 16, 3) := by decide +kernel
theorem dX8_run_26 : decode cX8_run 26 = .ok (.iload_n 2, 1) := by decide +kernel
theorem dX8_run_27 : decode cX8_run 27 = .ok (.laload, 1) := by decide +kernel
theorem dX8_run_28 : decode cX8_run 28 = .ok (.iload_n 1, 1) := by decide +kernel
theorem dX8_run_29 : decode cX8_run 29 = .ok (.invokevirtual 122, 3) := by decide +kernel
theorem dX8_run_32 : decode cX8_run 32 = .ok (.lastore, 1) := by decide +kernel
theorem dX8_run_33 : decode cX8_run 33 = .ok (.aload_n 0, 1) := by decide +kernel
theorem dX8_run_34 : decode cX8_run 34 = .ok (.getfield 16, 3) := by decide +kernel
theorem dX8_run_37 : decode cX8_run 37 = .ok (.iload_n 2, 1) := by decide +kernel
theorem dX8_run_38 : decode cX8_run 38 = .ok (.laload, 1) := by decide +kernel
theorem dX8_run_39 : decode cX8_run 39 = .ok (.invokestatic 88, 3) := by decide +kernel
theorem dX8_run_42 : decode cX8_run 42 = .ok (.ireturn, 1) := by decide +kernel
set_option maxHeartbeats 4000000 in
set_option maxRecDepth 100000 in
theorem bX8_run {n : Nat} {a1 : Int32} {a2 : Int32} {r : Int32} {y_mpi : (Nat → Int64)} (hx : p.tables.exec = Jvm.exec) (hb : c.code = cX8_run) (hml : c.maxLocals = 3) (hown : s.vm.findClass RX8 = some m.cls) (hts : ∀ w ∈ tw, w.before args s = true) (hK : va_K D vwCl [(cI, .int), (cJ, .long)] s) (hA : ∀ q, s.heap.size ≤ q → A q) (hR : 5 ≤ R.frames ∧ 128 ≤ R.locals ∧ cells ≤ R.cells ∧ slots ≤ R.slots) (hm : mX8_run n mpi mam mst mw mt mrim mac a1 a2 = some (r, y_mpi)) (ls : Array Slot) (hl : lv_has ls 3 [(0, .ref oM), (1, .int a1), (2, .int a2)]) (hP : va_P D vwCl (wdM cJ cI oM oM1 oM2 oM3 oM4 oM5 oM6 oM7 oM8 oM9 oM10 oM11 mw mt mrim mjn mhm mpn mbm mgm mpi mst mam mac mro mbe mhi mmi mgr mtr mle) H) (hD : va_D A (wdM cJ cI oM oM1 oM2 oM3 oM4 oM5 oM6 oM7 oM8 oM9 oM10 oM11 mw mt mrim mjn mhm mpn mbm mgm mpi mst mam mac mro mbe mhi mmi mgr mtr mle)) (hS : va_S A s.heap H locs) (K : ∀ (pc : Nat) (ls : Array Slot) (H : Heap) (locs : List Loc), decode cX8_run pc = .ok (.ireturn, 1) → va_P D vwCl (wdM cJ cI oM oM1 oM2 oM3 oM4 oM5 oM6 oM7 oM8 oM9 oM10 oM11 mw mt mrim mjn mhm mpn mbm mgm y_mpi mst mam mac mro mbe mhi mmi mgr mtr mle) H → va_D A (wdM cJ cI oM oM1 oM2 oM3 oM4 oM5 oM6 oM7 oM8 oM9 oM10 oM11 mw mt mrim mjn mhm mpn mbm mgm y_mpi mst mam mac mro mbe mhi mmi mgr mtr mle) → va_S A s.heap H locs → W p l e R s m args below meth c H locs cells slots Q (F0 m pc ls [.int r])) : W p l e R s m args below meth c H locs cells slots Q (F0 m 0 ls []) := by
  unfold mX8_run at hm
  refine lv_iload_n hx hb dX8_run_0 rfl (lv_at hl 1 rfl) ?_
  refine kX8_isProgram ⟨hx, hb, hml, hown, hts⟩ qw_126 hl.1 ⟨Nat.le_trans (by decide) hR.1, Nat.le_trans (by decide) hR.2.1, hR.2.2⟩ (Nat.le_of_ble_eq_true rfl) dX8_run_1 ?_
  refine lv_if_eq (tgt := 14) hx hb dX8_run_4 (by decide) (fun c2 => ?_) (fun c2 => ?_)
  · rw [if_pos c2] at hm
    refine lv_iconst (v := (-1 : Int32)) hx hb dX8_run_14 (by decide) ?_
    have hm := Option.some.inj hm
    have e9 : r = (-1 : Int32) := (congrArg (fun q => q.1) hm).symm
    rw [e9] at K
    have e9 : y_mpi = mpi := (congrArg (fun q => q.2) hm).symm
    rw [e9] at K
    exact K 15 ls _ _ dX8_run_15 hP hD hS
  · rw [if_neg c2] at hm
    refine lv_iload_n hx hb dX8_run_7 rfl (lv_at hl 2 rfl) ?_
    refine kX8_isPicture ⟨hx, hb, hml, hown, hts⟩ qw_101 hl.1 ⟨Nat.le_trans (by decide) hR.1, Nat.le_trans (by decide) hR.2.1, hR.2.2⟩ (Nat.le_of_ble_eq_true rfl) dX8_run_8 ?_
    refine lv_if_ne (tgt := 16) hx hb dX8_run_11 (by decide) (fun c4 => ?_) (fun c4 => ?_)
    · rw [if_neg c4] at hm
      refine lv_aload_n hx hb dX8_run_16 rfl (lv_at hl 0 rfl) ?_
      refine va_get (D := D) (ci := 8) (v := .ref oM1) (C := RX8) (T := TX8) (N := 19) hx hb hts tnX8 hown hK hP 0 rfl rfl 2 (by decide) (hts _ qw_103) (fun _ h9 => h9) rfl dX8_run_17 ?_
      refine lv_iload_n hx hb dX8_run_20 rfl (lv_at hl 2 rfl) ?_
      refine lv_aload_n hx hb dX8_run_21 rfl (lv_at hl 0 rfl) ?_
      refine lv_aload_n hx hb dX8_run_22 rfl (lv_at hl 0 rfl) ?_
      refine va_get (D := D) (ci := 8) (v := .ref oM1) (C := RX8) (T := TX8) (N := 19) hx hb hts tnX8 hown hK hP 0 rfl rfl 2 (by decide) (hts _ qw_103) (fun _ h9 => h9) rfl dX8_run_23 ?_
      refine lv_iload_n hx hb dX8_run_26 rfl (lv_at hl 2 rfl) ?_
      obtain ⟨g5, hm⟩ := gd_out hm
      refine va_lald hx hb hK hP 1 1 rfl rfl g5 dX8_run_27 ?_
      refine lv_iload_n hx hb dX8_run_28 rfl (lv_at hl 1 rfl) ?_
      obtain ⟨r6, h7, hm⟩ := jb_out hm
      refine kX8_ran ⟨hx, hb, hml, hown, hts⟩ qw_127 hP hK h7 hl.1 ⟨Nat.le_trans (by decide) hR.1, Nat.le_trans (by decide) hR.2.1, hR.2.2⟩ (Nat.le_of_ble_eq_true rfl) dX8_run_29 ?_
      obtain ⟨g8, hm⟩ := gd_out hm
      refine va_last hx hb hK hP hD hS 1 1 rfl rfl g8 dX8_run_32 (fun H locs hP hD hS => ?_)
      have hP : va_P D vwCl (wdM cJ cI oM oM1 oM2 oM3 oM4 oM5 oM6 oM7 oM8 oM9 oM10 oM11 mw mt mrim mjn mhm mpn mbm mgm (vp_updL mpi a2.toNatClampNeg r6) mst mam mac mro mbe mhi mmi mgr mtr mle) H := hP
      have hD : va_D A (wdM cJ cI oM oM1 oM2 oM3 oM4 oM5 oM6 oM7 oM8 oM9 oM10 oM11 mw mt mrim mjn mhm mpn mbm mgm (vp_updL mpi a2.toNatClampNeg r6) mst mam mac mro mbe mhi mmi mgr mtr mle) := hD
      refine lv_aload_n hx hb dX8_run_33 rfl (lv_at hl 0 rfl) ?_
      refine va_get (D := D) (ci := 8) (v := .ref oM1) (C := RX8) (T := TX8) (N := 19) hx hb hts tnX8 hown hK hP 0 rfl rfl 2 (by decide) (hts _ qw_103) (fun _ h9 => h9) rfl dX8_run_34 ?_
      refine lv_iload_n hx hb dX8_run_37 rfl (lv_at hl 2 rfl) ?_
      obtain ⟨g9, hm⟩ := gd_out hm
      refine va_lald hx hb hK hP 1 1 rfl rfl g9 dX8_run_38 ?_
      obtain ⟨r10, h11, hm⟩ := jb_out hm
      refine kX8_many ⟨hx, hb, hml, hown, hts⟩ qw_112 h11 hl.1 ⟨Nat.le_trans (by decide) hR.1, Nat.le_trans (by decide) hR.2.1, hR.2.2⟩ (Nat.le_of_ble_eq_true rfl) dX8_run_39 ?_
      have hm := Option.some.inj hm
      have e9 : r = r10 := (congrArg (fun q => q.1) hm).symm
      rw [e9] at K
      have e9 : y_mpi = (vp_updL mpi a2.toNatClampNeg r6) := (congrArg (fun q => q.2) hm).symm
      rw [e9] at K
      exact K 42 ls _ _ dX8_run_42 hP hD hS
    · rw [if_pos c4] at hm
      refine lv_iconst (v := (-1 : Int32)) hx hb dX8_run_14 (by decide) ?_
      have hm := Option.some.inj hm
      have e9 : r = (-1 : Int32) := (congrArg (fun q => q.1) hm).symm
      rw [e9] at K
      have e9 : y_mpi = mpi := (congrArg (fun q => q.2) hm).symm
      rw [e9] at K
      exact K 15 ls _ _ dX8_run_15 hP hD hS
set_option maxHeartbeats 4000000 in
set_option maxRecDepth 100000 in
theorem tX8_run (l : Launch) {D : va_G} (sz : Nat) {n : Nat} {a1 : Int32} {a2 : Int32} {r : Int32} {y_mpi : (Nat → Int64)} (hm : mX8_run n mpi mam mst mw mt mrim mac a1 a2 = some (r, y_mpi)) : Met l yX8_run (.code yX8_run cX8_run 3 (some .int) :: tw) ({ frames := 5, cells := 0, slots := 0, locals := 128 } : Room) (wrP D [.ref oM, .int a1, .int a2] (wdM cJ cI oM oM1 oM2 oM3 oM4 oM5 oM6 oM7 oM8 oM9 oM10 oM11 mw mt mrim mjn mhm mpn mbm mgm mpi mst mam mac mro mbe mhi mmi mgr mtr mle) [(cI, .int), (cJ, .long)] sz) (va_Qi (fun q (_ : Unit) => q = r) (fun (_ : Unit) (t : State) => va_P D vwCl (wdM cJ cI oM oM1 oM2 oM3 oM4 oM5 oM6 oM7 oM8 oM9 oM10 oM11 mw mt mrim mjn mhm mpn mbm mgm y_mpi mst mam mac mro mbe mhi mmi mgr mtr mle) t.heap ∧ va_K D vwCl [(cI, .int), (cJ, .long)] t ∧ va_D (va_A (wdM cJ cI oM oM1 oM2 oM3 oM4 oM5 oM6 oM7 oM8 oM9 oM10 oM11 mw mt mrim mjn mhm mpn mbm mgm mpi mst mam mac mro mbe mhi mmi mgr mtr mle) sz) (wdM cJ cI oM oM1 oM2 oM3 oM4 oM5 oM6 oM7 oM8 oM9 oM10 oM11 mw mt mrim mjn mhm mpn mbm mgm y_mpi mst mam mac mro mbe mhi mmi mgr mtr mle)) (va_A (wdM cJ cI oM oM1 oM2 oM3 oM4 oM5 oM6 oM7 oM8 oM9 oM10 oM11 mw mt mrim mjn mhm mpn mbm mgm mpi mst mam mac mro mbe mhi mmi mgr mtr mle) sz)) 0 0 (va_A (wdM cJ cI oM oM1 oM2 oM3 oM4 oM5 oM6 oM7 oM8 oM9 oM10 oM11 mw mt mrim mjn mhm mpn mbm mgm mpi mst mam mac mro mbe mhi mmi mgr mtr mle) sz) := by
  refine Met.ofW (cc := cX8_run) (maxL := 3) (ret := (some .int)) (by decide) rfl ?_
  intro p e s m args below meth c s₁ B hml hv
  obtain ⟨rfl, hsz, hP, hK, hD0⟩ := hv
  have hx := B.exec
  have hb := B.bytes
  have hr := B.returns
  have hts : ∀ w ∈ tw, w.before _ s = true := fun w h => atoms_spec (ws := .code yX8_run cX8_run 3 (some .int) :: tw) B.pre w (List.mem_cons_of_mem _ h)
  have hown : s.vm.findClass RX8 = some m.cls := findClass_of_methodNamed B.named
  have hlocks := B.notSynchronized
  subst hsz
  have hD := hD0.self (sz := s.heap.size)
  have hl := lv_entry ([.ref oM, .int a1, .int a2]) (n := 3) (Nat.le_of_ble_eq_true rfl)
  rw [lg_entry_eq]
  generalize (lg_sl ([.ref oM, .int a1, .int a2]) ++ List.replicate (3 - (lg_sl ([.ref oM, .int a1, .int a2])).length) Slot.unset).toArray = ls at hl ⊢
  refine bX8_run hx hb hml hown hts hK (fun q h => Or.inr h) ⟨Nat.le_of_ble_eq_true rfl, Nat.le_of_ble_eq_true rfl, Nat.zero_le _, Nat.zero_le _⟩ hm ls hl hP hD va_S.rf (fun pc ls H locs hd hP hD hS => ?_)
  exact W.iret hx hb hr (fun t ht hW => ⟨⟨r, (), rfl, rfl, by rw [ht]; exact hP, va_K.moved hW.alike hK, hD⟩, hS.F ht⟩) hS.2.2 hd
set_option maxHeartbeats 4000000 in
set_option maxRecDepth 100000 in
theorem kX8_run {own : String} {cc : ByteArray} {nL idx pc : Nat} {ls : Array Slot} {rest : List Value} {ws wr : va_W} {n : Nat} {a1 : Int32} {a2 : Int32} {r : Int32} {y_mpi : (Nat → Int64)} (fx : CallFix p m c cc nL s args tw own) (hq : Cond.methodLink own idx yX8_run ∈ tw) (isC isR : List Nat) (hC : isC.map (fun i => ws[i]?) = ((wdM cJ cI oM oM1 oM2 oM3 oM4 oM5 oM6 oM7 oM8 oM9 oM10 oM11 mw mt mrim mjn mhm mpn mbm mgm mpi mst mam mac mro mbe mhi mmi mgr mtr mle) : va_W).map some) (hRr : isR.map (fun i => ws[i]?) = wr.map some) (hnC : va_nd isC = true) (hn : va_nd isR = true) (hdis : ∀ i ∈ isR, i ∉ isC) (hK : va_K D vwCl [(cI, .int), (cJ, .long)] s) (hm : mX8_run n mpi mam mst mw mt mrim mac a1 a2 = some (r, y_mpi)) (hsz : ls.size = nL) (hR : 6 ≤ R.frames ∧ 150 ≤ R.locals ∧ cells ≤ R.cells ∧ slots ≤ R.slots) (hst : (rest.map fun v => v.category).sum ≤ 8) (hd : decode cc pc = .ok (.invokevirtual idx, 3)) (hP : va_P D vwCl ws H) (hD : va_D A ws) (hS : va_S A s.heap H locs) (hA : ∀ q, s.heap.size ≤ q → A q) (kk : ∀ (H : Heap) (locs : List Loc), va_P D vwCl (wr ++ (wdM cJ cI oM oM1 oM2 oM3 oM4 oM5 oM6 oM7 oM8 oM9 oM10 oM11 mw mt mrim mjn mhm mpn mbm mgm y_mpi mst mam mac mro mbe mhi mmi mgr mtr mle)) H → va_D A (wr ++ (wdM cJ cI oM oM1 oM2 oM3 oM4 oM5 oM6 oM7 oM8 oM9 oM10 oM11 mw mt mrim mjn mhm mpn mbm mgm y_mpi mst mam mac mro mbe mhi mmi mgr mtr mle)) → va_S A s.heap H locs → W p l e R s m args below meth c H locs cells slots Q (F0 m (pc + 3) ls (.int r :: rest))) : W p l e R s m args below meth c H locs cells slots Q (F0 m pc ls (.int a2 :: .int a1 :: .ref oM :: rest)) := by
  have hPc := va_P.subM hP isC hC
  have hDc := hD.sub isC hnC hC
  have hFc := va_free (wc := (wdM cJ cI oM oM1 oM2 oM3 oM4 oM5 oM6 oM7 oM8 oM9 oM10 oM11 mw mt mrim mjn mhm mpn mbm mgm mpi mst mam mac mro mbe mhi mmi mgr mtr mle)) hD hS hA isC hC
  refine va_calli (va_runV (As := [.int a1, .int a2]) (rest := rest) fx (tX8_run l H.size hm) (cwV 2 fx.2.2.2.2 (tw_V hq qw_481 qw_482 qw_53 qw_483) rfl rfl rfl (by decide +kernel) ⟨hR.1, hR.2.1⟩) ⟨wrP_bl, va_recv hK hPc (ci := 8) (q0 := 0) rfl rfl, wrP_ok hPc hK hDc⟩ rfl rfl hsz rfl (lv_room hst) hd ⟨hR.2.2.1, hR.2.2.2⟩) hS (fun q _ h => hFc q h) hFc (fun r9 u t H1 locs ht hvm hw hB hz1 hk1 hS => ?_)
  obtain ⟨hP1, hK1, hD1⟩ := hB
  rw [ht] at hP1
  rw [hw]
  obtain ⟨hP2, hD2⟩ := va_join (wr := wr) (w1 := (wdM cJ cI oM oM1 oM2 oM3 oM4 oM5 oM6 oM7 oM8 oM9 oM10 oM11 mw mt mrim mjn mhm mpn mbm mgm y_mpi mst mam mac mro mbe mhi mmi mgr mtr mle)) hP hD isC isR hC hRr hn hdis hk1 hFc hP1 hD1
  exact kk H1 locs hP2 hD2 hS
-- X8_keep
def mX8_keep (n : Nat) (mpi : Nat → Int64) (mw : Int32) (mt : Int32) (mjn : Int32) (a1 : Int32) (a2 : Int32) : Option (Int32 × (Nat → Int64)) :=
  (if (mX8_isPicture a1) = 0 then (some ((-1 : Int32), mpi)) else (if (mX8_isCell mw mt a2) = 0 then (some ((-1 : Int32), mpi)) else gd (ib a1 5) ((if (mX8_has (mpi a1.toNatClampNeg) a2) = 0 then (some ((-3 : Int32), mpi)) else gd (ib a1 5) (jb (mX8_pieceOf n mw mt (mpi a1.toNatClampNeg) a2 mjn) (fun (r9 : Int64) => gd (ib a1 5) (gd (ib a1 5) (jb (mX8_many n ((vp_updL mpi a1.toNatClampNeg r9) a1.toNatClampNeg)) (fun (r13 : Int32) => (some (r13, (vp_updL mpi a1.toNatClampNeg r9))))))))))))
theorem dX8_keep_0 : decode cX8_keep 0 = .ok (.iload_n 1, 1) := by decide +kernel
theorem dX8_keep_1 : decode cX8_keep 1 = .ok (.invokestatic 71, 3) := by decide +kernel
theorem dX8_keep_4 : decode cX8_keep 4 = .ok (.ifCond .eq 11, 3) := by decide +kernel
theorem dX8_keep_7 : decode cX8_keep 7 = .ok (.aload_n 0, 1) := by decide +kernel
theorem dX8_keep_8 : decode cX8_keep 8 = .ok (.iload_n 2, 1) := by decide +kernel
theorem dX8_keep_9 : decode cX8_keep 9 = .ok (.invokevirtual 75, 3) := by decide +kernel
theorem dX8_keep_12 : decode cX8_keep 12 = .ok (.ifCond .ne 5, 3) := by decide +kernel
theorem dX8_keep_15 : decode cX8_keep 15 = .ok (.iconst (-1), 1) := by decide +kernel
theorem dX8_keep_16 : decode cX8_keep 16 = .ok (.ireturn, 1) := by decide +kernel
theorem dX8_keep_17 : decode cX8_keep 17 = .ok (.aload_n 0, 1) := by decide +kernel
theorem dX8_keep_18 : decode cX8_keep 18 = .ok (.getfield 16, 3) := by decide +kernel
theorem dX8_keep_21 : decode cX8_keep 21 = .ok (.iload_n 1, 1) := by decide +kernel
theorem dX8_keep_22 : decode cX8_keep 22 = .ok (.laload, 1) := by decide +kernel
theorem dX8_keep_23 : decode cX8_keep 23 = .ok (.iload_n 2, 1) := by decide +kernel
theorem dX8_keep_24 : decode cX8_keep 24 = .ok (.invokestatic 78, 3) := by decide +kernel
theorem dX8_keep_27 : decode cX8_keep 27 = .ok (.ifCond .ne 6, 3) := by decide +kernel
theorem dX8_keep_30 : decode cX8_keep 30 = .ok (.bipush (-3), 2) := by decide +kernel
theorem dX8_keep_32 : decode cX8_keep 32 = .ok (.ireturn, 1) := by decide +kernel
theorem dX8_keep_33 : decode cX8_keep 33 = .ok (.aload_n 0, 1) := by decide +kernel
theorem dX8_keep_34 : decode cX8_keep 34 = .ok (.getfield 16, 3) := by decide +kernel
theorem dX8_keep_37 : decode cX8_keep 37 = .ok (.iload_n 1, 1) := by decide +kernel
theorem dX8_keep_38 : decode cX8_keep 38 = .ok (.aload_n 0, 1) := by decide +kernel
theorem dX8_keep_39 : decode cX8_keep 39 = .ok (.aload_n 0, 1) := by decide +kernel
theorem dX8_keep_40 : decode cX8_keep 40 = .ok (.getfield 16, 3) := by decide +kernel
theorem dX8_keep_43 : decode cX8_keep 43 = .ok (.iload_n 1, 1) := by decide +kernel
theorem dX8_keep_44 : decode cX8_keep 44 = .ok (.laload, 1) := by decide +kernel
theorem dX8_keep_45 : decode cX8_keep 45 = .ok (.iload_n 2, 1) := by decide +kernel
theorem dX8_keep_46 : decode cX8_keep 46 = .ok (.aload_n 0, 1) := by decide +kernel
theorem dX8_keep_47 : decode cX8_keep 47 = .ok (.getfield 27, 3) := by decide +kernel
theorem dX8_keep_50 : decode cX8_keep 50 = .ok (.invokevirtual 142, 3) := by decide +kernel
theorem dX8_keep_53 : decode cX8_keep 53 = .ok (.lastore, 1) := by decide +kernel
theorem dX8_keep_54 : decode cX8_keep 54 = .ok (.aload_n 0, 1) := by decide +kernel
theorem dX8_keep_55 : decode cX8_keep 55 = .ok (.getfield 16, 3) := by decide +kernel
theorem dX8_keep_58 : decode cX8_keep 58 = .ok (.iload_n 1, 1) := by decide +kernel
theorem dX8_keep_59 : decode cX8_keep 59 = .ok (.laload, 1) := by decide +kernel
theorem dX8_keep_60 : decode cX8_keep 60 = .ok (.invokestatic 88, 3) := by decide +kernel
theorem dX8_keep_63 : decode cX8_keep 63 = .ok (.ireturn, 1) := by decide +kernel
set_option maxHeartbeats 4000000 in
set_option maxRecDepth 100000 in
theorem bX8_keep {n : Nat} {a1 : Int32} {a2 : Int32} {r : Int32} {y_mpi : (Nat → Int64)} (hx : p.tables.exec = Jvm.exec) (hb : c.code = cX8_keep) (hml : c.maxLocals = 3) (hown : s.vm.findClass RX8 = some m.cls) (hts : ∀ w ∈ tw, w.before args s = true) (hK : va_K D vwCl [(cI, .int), (cJ, .long)] s) (hA : ∀ q, s.heap.size ≤ q → A q) (hR : 4 ≤ R.frames ∧ 106 ≤ R.locals ∧ cells ≤ R.cells ∧ slots ≤ R.slots) (hm : mX8_keep n mpi mw mt mjn a1 a2 = some (r, y_mpi)) (ls : Array Slot) (hl : lv_has ls 3 [(0, .ref oM), (1, .int a1), (2, .int a2)]) (hP : va_P D vwCl (wdM cJ cI oM oM1 oM2 oM3 oM4 oM5 oM6 oM7 oM8 oM9 oM10 oM11 mw mt mrim mjn mhm mpn mbm mgm mpi mst mam mac mro mbe mhi mmi mgr mtr mle) H) (hD : va_D A (wdM cJ cI oM oM1 oM2 oM3 oM4 oM5 oM6 oM7 oM8 oM9 oM10 oM11 mw mt mrim mjn mhm mpn mbm mgm mpi mst mam mac mro mbe mhi mmi mgr mtr mle)) (hS : va_S A s.heap H locs) (K : ∀ (pc : Nat) (ls : Array Slot) (H : Heap) (locs : List Loc), decode cX8_keep pc = .ok (.ireturn, 1) → va_P D vwCl (wdM cJ cI oM oM1 oM2 oM3 oM4 oM5 oM6 oM7 oM8 oM9 oM10 oM11 mw mt mrim mjn mhm mpn mbm mgm y_mpi mst mam mac mro mbe mhi mmi mgr mtr mle) H → va_D A (wdM cJ cI oM oM1 oM2 oM3 oM4 oM5 oM6 oM7 oM8 oM9 oM10 oM11 mw mt mrim mjn mhm mpn mbm mgm y_mpi mst mam mac mro mbe mhi mmi mgr mtr mle) → va_S A s.heap H locs → W p l e R s m args below meth c H locs cells slots Q (F0 m pc ls [.int r])) : W p l e R s m args below meth c H locs cells slots Q (F0 m 0 ls []) := by
  unfold mX8_keep at hm
  refine lv_iload_n hx hb dX8_keep_0 rfl (lv_at hl 1 rfl) ?_
  refine kX8_isPicture ⟨hx, hb, hml, hown, hts⟩ qw_101 hl.1 ⟨Nat.le_trans (by decide) hR.1, Nat.le_trans (by decide) hR.2.1, hR.2.2⟩ (Nat.le_of_ble_eq_true rfl) dX8_keep_1 ?_
  refine lv_if_eq (tgt := 15) hx hb dX8_keep_4 (by decide) (fun c2 => ?_) (fun c2 => ?_)
  · rw [if_pos c2] at hm
    refine lv_iconst (v := (-1 : Int32)) hx hb dX8_keep_15 (by decide) ?_
    have hm := Option.some.inj hm
    have e9 : r = (-1 : Int32) := (congrArg (fun q => q.1) hm).symm
    rw [e9] at K
    have e9 : y_mpi = mpi := (congrArg (fun q => q.2) hm).symm
    rw [e9] at K
    exact K 16 ls _ _ dX8_keep_16 hP hD hS
  · rw [if_neg c2] at hm
    refine lv_aload_n hx hb dX8_keep_7 rfl (lv_at hl 0 rfl) ?_
    refine lv_iload_n hx hb dX8_keep_8 rfl (lv_at hl 2 rfl) ?_
    refine kX8_isCell ⟨hx, hb, hml, hown, hts⟩ qw_102 hP hK hl.1 ⟨Nat.le_trans (by decide) hR.1, Nat.le_trans (by decide) hR.2.1, hR.2.2⟩ (Nat.le_of_ble_eq_true rfl) dX8_keep_9 ?_
    refine lv_if_ne (tgt := 17) hx hb dX8_keep_12 (by decide) (fun c4 => ?_) (fun c4 => ?_)
    · rw [if_neg c4] at hm
      refine lv_aload_n hx hb dX8_keep_17 rfl (lv_at hl 0 rfl) ?_
      refine va_get (D := D) (ci := 8) (v := .ref oM1) (C := RX8) (T := TX8) (N := 19) hx hb hts tnX8 hown hK hP 0 rfl rfl 2 (by decide) (hts _ qw_103) (fun _ h9 => h9) rfl dX8_keep_18 ?_
      refine lv_iload_n hx hb dX8_keep_21 rfl (lv_at hl 1 rfl) ?_
      obtain ⟨g5, hm⟩ := gd_out hm
      refine va_lald hx hb hK hP 1 1 rfl rfl g5 dX8_keep_22 ?_
      refine lv_iload_n hx hb dX8_keep_23 rfl (lv_at hl 2 rfl) ?_
      refine kX8_has ⟨hx, hb, hml, hown, hts⟩ qw_81 hl.1 ⟨Nat.le_trans (by decide) hR.1, Nat.le_trans (by decide) hR.2.1, hR.2.2⟩ (Nat.le_of_ble_eq_true rfl) dX8_keep_24 ?_
      refine lv_if_ne (tgt := 33) hx hb dX8_keep_27 (by decide) (fun c7 => ?_) (fun c7 => ?_)
      · rw [if_neg c7] at hm
        refine lv_aload_n hx hb dX8_keep_33 rfl (lv_at hl 0 rfl) ?_
        refine va_get (D := D) (ci := 8) (v := .ref oM1) (C := RX8) (T := TX8) (N := 19) hx hb hts tnX8 hown hK hP 0 rfl rfl 2 (by decide) (hts _ qw_103) (fun _ h9 => h9) rfl dX8_keep_34 ?_
        refine lv_iload_n hx hb dX8_keep_37 rfl (lv_at hl 1 rfl) ?_
        refine lv_aload_n hx hb dX8_keep_38 rfl (lv_at hl 0 rfl) ?_
        refine lv_aload_n hx hb dX8_keep_39 rfl (lv_at hl 0 rfl) ?_
        refine va_get (D := D) (ci := 8) (v := .ref oM1) (C := RX8) (T := TX8) (N := 19) hx hb hts tnX8 hown hK hP 0 rfl rfl 2 (by decide) (hts _ qw_103) (fun _ h9 => h9) rfl dX8_keep_40 ?_
        refine lv_iload_n hx hb dX8_keep_43 rfl (lv_at hl 1 rfl) ?_
        obtain ⟨g8, hm⟩ := gd_out hm
        refine va_lald hx hb hK hP 1 1 rfl rfl g8 dX8_keep_44 ?_
        refine lv_iload_n hx hb dX8_keep_45 rfl (lv_at hl 2 rfl) ?_
        refine lv_aload_n hx hb dX8_keep_46 rfl (lv_at hl 0 rfl) ?_
        refine va_get (D := D) (ci := 8) (v := .int mjn) (C := RX8) (T := TX8) (N := 19) hx hb hts tnX8 hown hK hP 0 rfl rfl 5 (by decide) (hts _ qw_140) (fun _ h9 => h9) rfl dX8_keep_47 ?_
        obtain ⟨r9, h10, hm⟩ := jb_out hm
        refine kX8_pieceOf ⟨hx, hb, hml, hown, hts⟩ qw_141 hP hK h10 hl.1 ⟨Nat.le_trans (by decide) hR.1, Nat.le_trans (by decide) hR.2.1, hR.2.2⟩ (Nat.le_of_ble_eq_true rfl) dX8_keep_50 ?_
        obtain ⟨g11, hm⟩ := gd_out hm
        refine va_last hx hb hK hP hD hS 1 1 rfl rfl g11 dX8_keep_53 (fun H locs hP hD hS => ?_)
        have hP : va_P D vwCl (wdM cJ cI oM oM1 oM2 oM3 oM4 oM5 oM6 oM7 oM8 oM9 oM10 oM11 mw mt mrim mjn mhm mpn mbm mgm (vp_updL mpi a1.toNatClampNeg r9) mst mam mac mro mbe mhi mmi mgr mtr mle) H := hP
        have hD : va_D A (wdM cJ cI oM oM1 oM2 oM3 oM4 oM5 oM6 oM7 oM8 oM9 oM10 oM11 mw mt mrim mjn mhm mpn mbm mgm (vp_updL mpi a1.toNatClampNeg r9) mst mam mac mro mbe mhi mmi mgr mtr mle) := hD
        refine lv_aload_n hx hb dX8_keep_54 rfl (lv_at hl 0 rfl) ?_
        refine va_get (D := D) (ci := 8) (v := .ref oM1) (C := RX8) (T := TX8) (N := 19) hx hb hts tnX8 hown hK hP 0 rfl rfl 2 (by decide) (hts _ qw_103) (fun _ h9 => h9) rfl dX8_keep_55 ?_
        refine lv_iload_n hx hb dX8_keep_58 rfl (lv_at hl 1 rfl) ?_
        obtain ⟨g12, hm⟩ := gd_out hm
        refine va_lald hx hb hK hP 1 1 rfl rfl g12 dX8_keep_59 ?_
        obtain ⟨r13, h14, hm⟩ := jb_out hm
        refine kX8_many ⟨hx, hb, hml, hown, hts⟩ qw_112 h14 hl.1 ⟨Nat.le_trans (by decide) hR.1, Nat.le_trans (by decide) hR.2.1, hR.2.2⟩ (Nat.le_of_ble_eq_true rfl) dX8_keep_60 ?_
        have hm := Option.some.inj hm
        have e9 : r = r13 := (congrArg (fun q => q.1) hm).symm
        rw [e9] at K
        have e9 : y_mpi = (vp_updL mpi a1.toNatClampNeg r9) := (congrArg (fun q => q.2) hm).symm
        rw [e9] at K
        exact K 63 ls _ _ dX8_keep_63 hP hD hS
      · rw [if_pos c7] at hm
        refine lv_bipush (v := (-3 : Int32)) hx hb dX8_keep_30 (by decide) ?_
        have hm := Option.some.inj hm
        have e9 : r = (-3 : Int32) := (congrArg (fun q => q.1) hm).symm
        rw [e9] at K
        have e9 : y_mpi = mpi := (congrArg (fun q => q.2) hm).symm
        rw [e9] at K
        exact K 32 ls _ _ dX8_keep_32 hP hD hS
    · rw [if_pos c4] at hm
      refine lv_iconst (v := (-1 : Int32)) hx hb dX8_keep_15 (by decide) ?_
      have hm := Option.some.inj hm
      have e9 : r = (-1 : Int32) := (congrArg (fun q => q.1) hm).symm
      rw [e9] at K
      have e9 : y_mpi = mpi := (congrArg (fun q => q.2) hm).symm
      rw [e9] at K
      exact K 16 ls _ _ dX8_keep_16 hP hD hS
set_option maxHeartbeats 4000000 in
set_option maxRecDepth 100000 in
theorem tX8_keep (l : Launch) {D : va_G} (sz : Nat) {n : Nat} {a1 : Int32} {a2 : Int32} {r : Int32} {y_mpi : (Nat → Int64)} (hm : mX8_keep n mpi mw mt mjn a1 a2 = some (r, y_mpi)) : Met l yX8_keep (.code yX8_keep cX8_keep 3 (some .int) :: tw) ({ frames := 4, cells := 0, slots := 0, locals := 106 } : Room) (wrP D [.ref oM, .int a1, .int a2] (wdM cJ cI oM oM1 oM2 oM3 oM4 oM5 oM6 oM7 oM8 oM9 oM10 oM11 mw mt mrim mjn mhm mpn mbm mgm mpi mst mam mac mro mbe mhi mmi mgr mtr mle) [(cI, .int), (cJ, .long)] sz) (va_Qi (fun q (_ : Unit) => q = r) (fun (_ : Unit) (t : State) => va_P D vwCl (wdM cJ cI oM oM1 oM2 oM3 oM4 oM5 oM6 oM7 oM8 oM9 oM10 oM11 mw mt mrim mjn mhm mpn mbm mgm y_mpi mst mam mac mro mbe mhi mmi mgr mtr mle) t.heap ∧ va_K D vwCl [(cI, .int), (cJ, .long)] t ∧ va_D (va_A (wdM cJ cI oM oM1 oM2 oM3 oM4 oM5 oM6 oM7 oM8 oM9 oM10 oM11 mw mt mrim mjn mhm mpn mbm mgm mpi mst mam mac mro mbe mhi mmi mgr mtr mle) sz) (wdM cJ cI oM oM1 oM2 oM3 oM4 oM5 oM6 oM7 oM8 oM9 oM10 oM11 mw mt mrim mjn mhm mpn mbm mgm y_mpi mst mam mac mro mbe mhi mmi mgr mtr mle)) (va_A (wdM cJ cI oM oM1 oM2 oM3 oM4 oM5 oM6 oM7 oM8 oM9 oM10 oM11 mw mt mrim mjn mhm mpn mbm mgm mpi mst mam mac mro mbe mhi mmi mgr mtr mle) sz)) 0 0 (va_A (wdM cJ cI oM oM1 oM2 oM3 oM4 oM5 oM6 oM7 oM8 oM9 oM10 oM11 mw mt mrim mjn mhm mpn mbm mgm mpi mst mam mac mro mbe mhi mmi mgr mtr mle) sz) := by
  refine Met.ofW (cc := cX8_keep) (maxL := 3) (ret := (some .int)) (by decide) rfl ?_
  intro p e s m args below meth c s₁ B hml hv
  obtain ⟨rfl, hsz, hP, hK, hD0⟩ := hv
  have hx := B.exec
  have hb := B.bytes
  have hr := B.returns
  have hts : ∀ w ∈ tw, w.before _ s = true := fun w h => atoms_spec (ws := .code yX8_keep cX8_keep 3 (some .int) :: tw) B.pre w (List.mem_cons_of_mem _ h)
  have hown : s.vm.findClass RX8 = some m.cls := findClass_of_methodNamed B.named
  have hlocks := B.notSynchronized
  subst hsz
  have hD := hD0.self (sz := s.heap.size)
  have hl := lv_entry ([.ref oM, .int a1, .int a2]) (n := 3) (Nat.le_of_ble_eq_true rfl)
  rw [lg_entry_eq]
  generalize (lg_sl ([.ref oM, .int a1, .int a2]) ++ List.replicate (3 - (lg_sl ([.ref oM, .int a1, .int a2])).length) Slot.unset).toArray = ls at hl ⊢
  refine bX8_keep hx hb hml hown hts hK (fun q h => Or.inr h) ⟨Nat.le_of_ble_eq_true rfl, Nat.le_of_ble_eq_true rfl, Nat.zero_le _, Nat.zero_le _⟩ hm ls hl hP hD va_S.rf (fun pc ls H locs hd hP hD hS => ?_)
  exact W.iret hx hb hr (fun t ht hW => ⟨⟨r, (), rfl, rfl, by rw [ht]; exact hP, va_K.moved hW.alike hK, hD⟩, hS.F ht⟩) hS.2.2 hd
set_option maxHeartbeats 4000000 in
set_option maxRecDepth 100000 in
theorem kX8_keep {own : String} {cc : ByteArray} {nL idx pc : Nat} {ls : Array Slot} {rest : List Value} {ws wr : va_W} {n : Nat} {a1 : Int32} {a2 : Int32} {r : Int32} {y_mpi : (Nat → Int64)} (fx : CallFix p m c cc nL s args tw own) (hq : Cond.methodLink own idx yX8_keep ∈ tw) (isC isR : List Nat) (hC : isC.map (fun i => ws[i]?) = ((wdM cJ cI oM oM1 oM2 oM3 oM4 oM5 oM6 oM7 oM8 oM9 oM10 oM11 mw mt mrim mjn mhm mpn mbm mgm mpi mst mam mac mro mbe mhi mmi mgr mtr mle) : va_W).map some) (hRr : isR.map (fun i => ws[i]?) = wr.map some) (hnC : va_nd isC = true) (hn : va_nd isR = true) (hdis : ∀ i ∈ isR, i ∉ isC) (hK : va_K D vwCl [(cI, .int), (cJ, .long)] s) (hm : mX8_keep n mpi mw mt mjn a1 a2 = some (r, y_mpi)) (hsz : ls.size = nL) (hR : 5 ≤ R.frames ∧ 128 ≤ R.locals ∧ cells ≤ R.cells ∧ slots ≤ R.slots) (hst : (rest.map fun v => v.category).sum ≤ 8) (hd : decode cc pc = .ok (.invokevirtual idx, 3)) (hP : va_P D vwCl ws H) (hD : va_D A ws) (hS : va_S A s.heap H locs) (hA : ∀ q, s.heap.size ≤ q → A q) (kk : ∀ (H : Heap) (locs : List Loc), va_P D vwCl (wr ++ (wdM cJ cI oM oM1 oM2 oM3 oM4 oM5 oM6 oM7 oM8 oM9 oM10 oM11 mw mt mrim mjn mhm mpn mbm mgm y_mpi mst mam mac mro mbe mhi mmi mgr mtr mle)) H → va_D A (wr ++ (wdM cJ cI oM oM1 oM2 oM3 oM4 oM5 oM6 oM7 oM8 oM9 oM10 oM11 mw mt mrim mjn mhm mpn mbm mgm y_mpi mst mam mac mro mbe mhi mmi mgr mtr mle)) → va_S A s.heap H locs → W p l e R s m args below meth c H locs cells slots Q (F0 m (pc + 3) ls (.int r :: rest))) : W p l e R s m args below meth c H locs cells slots Q (F0 m pc ls (.int a2 :: .int a1 :: .ref oM :: rest)) := by
  have hPc := va_P.subM hP isC hC
  have hDc := hD.sub isC hnC hC
  have hFc := va_free (wc := (wdM cJ cI oM oM1 oM2 oM3 oM4 oM5 oM6 oM7 oM8 oM9 oM10 oM11 mw mt mrim mjn mhm mpn mbm mgm mpi mst mam mac mro mbe mhi mmi mgr mtr mle)) hD hS hA isC hC
  refine va_calli (va_runV (As := [.int a1, .int a2]) (rest := rest) fx (tX8_keep l H.size hm) (cwV 2 fx.2.2.2.2 (tw_V hq qw_484 qw_485 qw_53 qw_486) rfl rfl rfl (by decide +kernel) ⟨hR.1, hR.2.1⟩) ⟨wrP_bl, va_recv hK hPc (ci := 8) (q0 := 0) rfl rfl, wrP_ok hPc hK hDc⟩ rfl rfl hsz rfl (lv_room hst) hd ⟨hR.2.2.1, hR.2.2.2⟩) hS (fun q _ h => hFc q h) hFc (fun r9 u t H1 locs ht hvm hw hB hz1 hk1 hS => ?_)
  obtain ⟨hP1, hK1, hD1⟩ := hB
  rw [ht] at hP1
  rw [hw]
  obtain ⟨hP2, hD2⟩ := va_join (wr := wr) (w1 := (wdM cJ cI oM oM1 oM2 oM3 oM4 oM5 oM6 oM7 oM8 oM9 oM10 oM11 mw mt mrim mjn mhm mpn mbm mgm y_mpi mst mam mac mro mbe mhi mmi mgr mtr mle)) hP hD isC isR hC hRr hn hdis hk1 hFc hP1 hD1
  exact kk H1 locs hP2 hD2 hS
-- X8_pair
def mX8_pair (mpn : Int32) (mhi : Nat → Int32) (mmi : Nat → Int32) (a1 : Int32) (a2 : Int32) : Option (Int32 × (Int32) × (Nat → Int32) × (Nat → Int32)) :=
  (if (mX8_in ((a1).toInt64) (0 : Int64) (3 : Int64)) = 0 then (some ((-1 : Int32), mpn, mhi, mmi)) else (if (mX8_in ((a2).toInt64) (0 : Int64) (3 : Int64)) = 0 then (some ((-1 : Int32), mpn, mhi, mmi)) else (if mpn = (8 : Int32) then (some ((-4 : Int32), mpn, mhi, mmi)) else gd (ib mpn 8) (gd (ib mpn 8) ((some (((mpn + (1 : Int32)) - (1 : Int32)), (mpn + (1 : Int32)), (upd mhi mpn.toNatClampNeg a1), (upd mmi mpn.toNatClampNeg a2))))))))
theorem dX8_pair_0 : decode cX8_pair 0 = .ok (.iload_n 1, 1) := by decide +kernel
theorem dX8_pair_1 : decode cX8_pair 1 = .ok (.i2l, 1) := by decide +kernel
theorem dX8_pair_2 : decode cX8_pair 2 = .ok (.lconst 0, 1) := by decide +kernel
theorem dX8_pair_3 : decode cX8_pair 3 = .ok (.ldc2_w 92, 3) := by decide +kernel
theorem dX8_pair_6 : decode cX8_pair 6 = .ok (.invokestatic 63, 3) := by decide +kernel
theorem dX8_pair_9 : decode cX8_pair 9 = .ok (.ifCond .eq 15, 3) := by decide +kernel
theorem dX8_pair_12 : decode cX8_pair 12 = .ok (.iload_n 2, 1) := by decide +kernel
theorem dX8_pair_13 : decode cX8_pair 13 = .ok (.i2l, 1) := by decide +kernel
theorem dX8_pair_14 : decode cX8_pair 14 = .ok (.lconst 0, 1) := by decide +kernel
theorem dX8_pair_15 : decode cX8_pair 15 = .ok (.ldc2_w 92, 3) := by decide +kernel
theorem dX8_pair_18 : decode cX8_pair 18 = .ok (.invokestatic 63, 3) := by decide +kernel
theorem dX8_pair_21 : decode cX8_pair 21 = .ok (.ifCond .ne 5, 3) := by decide +kernel
theorem dX8_pair_24 : decode cX8_pair 24 = .ok (.iconst (-1), 1) := by decide +kernel
theorem dX8_pair_25 : decode cX8_pair 25 = .ok (.ireturn, 1) := by decide +kernel
theorem dX8_pair_26 : decode cX8_pair 26 = .ok (.aload_n 0, 1) := by decide +kernel
theorem dX8_pair_27 : decode cX8_pair 27 = .ok (.getfield 159, 3) := by decide +kernel
theorem dX8_pair_30 : decode cX8_pair 30 = .ok (.bipush 8, 2) := by decide +kernel
theorem dX8_pair_32 : decode cX8_pair 32 = .ok (.if_icmp .ne 6, 3) := by decide +kernel
theorem dX8_pair_35 : decode cX8_pair 35 = .ok (.bipush (-4), 2) := by decide +kernel
theorem dX8_pair_37 : decode cX8_pair 37 = .ok (.ireturn, 1) := by decide +kernel
theorem dX8_pair_38 : decode cX8_pair 38 = .ok (.aload_n 0, 1) := by decide +kernel
theorem dX8_pair_39 : decode cX8_pair 39 = .ok (.getfield 42, 3) := by decide +kernel
theorem dX8_pair_42 : decode cX8_pair 42 = .ok (.aload_n 0, 1) := by decide +kernel
theorem dX8_pair_43 : decode cX8_pair 43 = .ok (.getfield 159, 3) := by decide +kernel
theorem dX8_pair_46 : decode cX8_pair 46 = .ok (.iload_n 1, 1) := by decide +kernel
theorem dX8_pair_47 : decode cX8_pair 47 = .ok (.iastore, 1) := by decide +kernel
theorem dX8_pair_48 : decode cX8_pair 48 = .ok (.aload_n 0, 1) := by decide +kernel
theorem dX8_pair_49 : decode cX8_pair 49 = .ok (.getfield 45, 3) := by decide +kernel
theorem dX8_pair_52 : decode cX8_pair 52 = .ok (.aload_n 0, 1) := by decide +kernel
theorem dX8_pair_53 : decode cX8_pair 53 = .ok (.getfield 159, 3) := by decide +kernel
theorem dX8_pair_56 : decode cX8_pair 56 = .ok (.iload_n 2, 1) := by decide +kernel
theorem dX8_pair_57 : decode cX8_pair 57 = .ok (.iastore, 1) := by decide +kernel
theorem dX8_pair_58 : decode cX8_pair 58 = .ok (.aload_n 0, 1) := by decide +kernel
theorem dX8_pair_59 : decode cX8_pair 59 = .ok (.dup, 1) := by decide +kernel
theorem dX8_pair_60 : decode cX8_pair 60 = .ok (.getfield 159, 3) := by decide +kernel
theorem dX8_pair_63 : decode cX8_pair 63 = .ok (.iconst 1, 1) := by decide +kernel
theorem dX8_pair_64 : decode cX8_pair 64 = .ok (.iadd, 1) := by decide +kernel
theorem dX8_pair_65 : decode cX8_pair 65 = .ok (.putfield 159, 3) := by decide +kernel
theorem dX8_pair_68 : decode cX8_pair 68 = .ok (.aload_n 0, 1) := by decide +kernel
theorem dX8_pair_69 : decode cX8_pair 69 = .ok (.getfield 159, 3) := by decide +kernel
theorem dX8_pair_72 : decode cX8_pair 72 = .ok (.iconst 1, 1) := by decide +kernel
theorem dX8_pair_73 : decode cX8_pair 73 = .ok (.isub, 1) := by decide +kernel
theorem dX8_pair_74 : decode cX8_pair 74 = .ok (.ireturn, 1) := by decide +kernel
set_option maxHeartbeats 4000000 in
set_option maxRecDepth 100000 in
theorem bX8_pair {a1 : Int32} {a2 : Int32} {r : Int32} {y_mpn : (Int32)} {y_mhi : (Nat → Int32)} {y_mmi : (Nat → Int32)} (hx : p.tables.exec = Jvm.exec) (hb : c.code = cX8_pair) (hml : c.maxLocals = 3) (hown : s.vm.findClass RX8 = some m.cls) (hts : ∀ w ∈ tw, w.before args s = true) (hK : va_K D vwCl [(cI, .int), (cJ, .long)] s) (hA : ∀ q, s.heap.size ≤ q → A q) (hR : 1 ≤ R.frames ∧ 25 ≤ R.locals ∧ cells ≤ R.cells ∧ slots ≤ R.slots) (hm : mX8_pair mpn mhi mmi a1 a2 = some (r, y_mpn, y_mhi, y_mmi)) (ls : Array Slot) (hl : lv_has ls 3 [(0, .ref oM), (1, .int a1), (2, .int a2)]) (hP : va_P D vwCl (wdM cJ cI oM oM1 oM2 oM3 oM4 oM5 oM6 oM7 oM8 oM9 oM10 oM11 mw mt mrim mjn mhm mpn mbm mgm mpi mst mam mac mro mbe mhi mmi mgr mtr mle) H) (hD : va_D A (wdM cJ cI oM oM1 oM2 oM3 oM4 oM5 oM6 oM7 oM8 oM9 oM10 oM11 mw mt mrim mjn mhm mpn mbm mgm mpi mst mam mac mro mbe mhi mmi mgr mtr mle)) (hS : va_S A s.heap H locs) (K : ∀ (pc : Nat) (ls : Array Slot) (H : Heap) (locs : List Loc), decode cX8_pair pc = .ok (.ireturn, 1) → va_P D vwCl (wdM cJ cI oM oM1 oM2 oM3 oM4 oM5 oM6 oM7 oM8 oM9 oM10 oM11 mw mt mrim mjn mhm y_mpn mbm mgm mpi mst mam mac mro mbe y_mhi y_mmi mgr mtr mle) H → va_D A (wdM cJ cI oM oM1 oM2 oM3 oM4 oM5 oM6 oM7 oM8 oM9 oM10 oM11 mw mt mrim mjn mhm y_mpn mbm mgm mpi mst mam mac mro mbe y_mhi y_mmi mgr mtr mle) → va_S A s.heap H locs → W p l e R s m args below meth c H locs cells slots Q (F0 m pc ls [.int r])) : W p l e R s m args below meth c H locs cells slots Q (F0 m 0 ls []) := by
  unfold mX8_pair at hm
  refine lv_iload_n hx hb dX8_pair_0 rfl (lv_at hl 1 rfl) ?_
  refine lv_i2l (v := ((a1).toInt64)) hx hb dX8_pair_1 rfl ?_
  refine lv_lconst (v := (0 : Int64)) hx hb dX8_pair_2 (by decide) ?_
  refine lv_ldc2 (v := (3 : Int64)) hx hb hown (hts _ qw_161) dX8_pair_3 ?_
  refine kX8_in ⟨hx, hb, hml, hown, hts⟩ qw_65 hl.1 ⟨Nat.le_trans (by decide) hR.1, Nat.le_trans (by decide) hR.2.1, hR.2.2⟩ (Nat.le_of_ble_eq_true rfl) dX8_pair_6 ?_
  refine lv_if_eq (tgt := 24) hx hb dX8_pair_9 (by decide) (fun c2 => ?_) (fun c2 => ?_)
  · rw [if_pos c2] at hm
    refine lv_iconst (v := (-1 : Int32)) hx hb dX8_pair_24 (by decide) ?_
    have hm := Option.some.inj hm
    have e9 : r = (-1 : Int32) := (congrArg (fun q => q.1) hm).symm
    rw [e9] at K
    have e9 : y_mpn = mpn := (congrArg (fun q => q.2.1) hm).symm
    rw [e9] at K
    have e9 : y_mhi = mhi := (congrArg (fun q => q.2.2.1) hm).symm
    rw [e9] at K
    have e9 : y_mmi = mmi := (congrArg (fun q => q.2.2.2) hm).symm
    rw [e9] at K
    exact K 25 ls _ _ dX8_pair_25 hP hD hS
  · rw [if_neg c2] at hm
    refine lv_iload_n hx hb dX8_pair_12 rfl (lv_at hl 2 rfl) ?_
    refine lv_i2l (v := ((a2).toInt64)) hx hb dX8_pair_13 rfl ?_
    refine lv_lconst (v := (0 : Int64)) hx hb dX8_pair_14 (by decide) ?_
    refine lv_ldc2 (v := (3 : Int64)) hx hb hown (hts _ qw_161) dX8_pair_15 ?_
    refine kX8_in ⟨hx, hb, hml, hown, hts⟩ qw_65 hl.1 ⟨Nat.le_trans (by decide) hR.1, Nat.le_trans (by decide) hR.2.1, hR.2.2⟩ (Nat.le_of_ble_eq_true rfl) dX8_pair_18 ?_
    refine lv_if_ne (tgt := 26) hx hb dX8_pair_21 (by decide) (fun c4 => ?_) (fun c4 => ?_)
    · rw [if_neg c4] at hm
      refine lv_aload_n hx hb dX8_pair_26 rfl (lv_at hl 0 rfl) ?_
      refine va_get (D := D) (ci := 8) (v := .int mpn) (C := RX8) (T := TX8) (N := 19) hx hb hts tnX8 hown hK hP 0 rfl rfl 11 (by decide) (hts _ qw_156) (fun _ h9 => h9) rfl dX8_pair_27 ?_
      refine lv_bipush (v := (8 : Int32)) hx hb dX8_pair_30 (by decide) ?_
      refine lv_icmp_ne (tgt := 38) hx hb dX8_pair_32 (by decide) (fun c5 => ?_) (fun c5 => ?_)
      · rw [if_neg c5] at hm
        refine lv_aload_n hx hb dX8_pair_38 rfl (lv_at hl 0 rfl) ?_
        refine va_get (D := D) (ci := 8) (v := .ref oM7) (C := RX8) (T := TX8) (N := 19) hx hb hts tnX8 hown hK hP 0 rfl rfl 12 (by decide) (hts _ qw_151) (fun _ h9 => h9) rfl dX8_pair_39 ?_
        refine lv_aload_n hx hb dX8_pair_42 rfl (lv_at hl 0 rfl) ?_
        refine va_get (D := D) (ci := 8) (v := .int mpn) (C := RX8) (T := TX8) (N := 19) hx hb hts tnX8 hown hK hP 0 rfl rfl 11 (by decide) (hts _ qw_156) (fun _ h9 => h9) rfl dX8_pair_43 ?_
        refine lv_iload_n hx hb dX8_pair_46 rfl (lv_at hl 1 rfl) ?_
        obtain ⟨g6, hm⟩ := gd_out hm
        refine va_iast hx hb hK hP hD hS 7 0 rfl rfl g6 dX8_pair_47 (fun H locs hP hD hS => ?_)
        have hP : va_P D vwCl (wdM cJ cI oM oM1 oM2 oM3 oM4 oM5 oM6 oM7 oM8 oM9 oM10 oM11 mw mt mrim mjn mhm mpn mbm mgm mpi mst mam mac mro mbe (upd mhi mpn.toNatClampNeg a1) mmi mgr mtr mle) H := hP
        have hD : va_D A (wdM cJ cI oM oM1 oM2 oM3 oM4 oM5 oM6 oM7 oM8 oM9 oM10 oM11 mw mt mrim mjn mhm mpn mbm mgm mpi mst mam mac mro mbe (upd mhi mpn.toNatClampNeg a1) mmi mgr mtr mle) := hD
        refine lv_aload_n hx hb dX8_pair_48 rfl (lv_at hl 0 rfl) ?_
        refine va_get (D := D) (ci := 8) (v := .ref oM8) (C := RX8) (T := TX8) (N := 19) hx hb hts tnX8 hown hK hP 0 rfl rfl 13 (by decide) (hts _ qw_152) (fun _ h9 => h9) rfl dX8_pair_49 ?_
        refine lv_aload_n hx hb dX8_pair_52 rfl (lv_at hl 0 rfl) ?_
        refine va_get (D := D) (ci := 8) (v := .int mpn) (C := RX8) (T := TX8) (N := 19) hx hb hts tnX8 hown hK hP 0 rfl rfl 11 (by decide) (hts _ qw_156) (fun _ h9 => h9) rfl dX8_pair_53 ?_
        refine lv_iload_n hx hb dX8_pair_56 rfl (lv_at hl 2 rfl) ?_
        obtain ⟨g7, hm⟩ := gd_out hm
        refine va_iast hx hb hK hP hD hS 8 0 rfl rfl g7 dX8_pair_57 (fun H locs hP hD hS => ?_)
        have hP : va_P D vwCl (wdM cJ cI oM oM1 oM2 oM3 oM4 oM5 oM6 oM7 oM8 oM9 oM10 oM11 mw mt mrim mjn mhm mpn mbm mgm mpi mst mam mac mro mbe (upd mhi mpn.toNatClampNeg a1) (upd mmi mpn.toNatClampNeg a2) mgr mtr mle) H := hP
        have hD : va_D A (wdM cJ cI oM oM1 oM2 oM3 oM4 oM5 oM6 oM7 oM8 oM9 oM10 oM11 mw mt mrim mjn mhm mpn mbm mgm mpi mst mam mac mro mbe (upd mhi mpn.toNatClampNeg a1) (upd mmi mpn.toNatClampNeg a2) mgr mtr mle) := hD
        refine lv_aload_n hx hb dX8_pair_58 rfl (lv_at hl 0 rfl) ?_
        refine lv_dup hx hb dX8_pair_59 rfl ?_
        refine va_get (D := D) (ci := 8) (v := .int mpn) (C := RX8) (T := TX8) (N := 19) hx hb hts tnX8 hown hK hP 0 rfl rfl 11 (by decide) (hts _ qw_156) (fun _ h9 => h9) rfl dX8_pair_60 ?_
        refine lv_iconst (v := (1 : Int32)) hx hb dX8_pair_63 (by decide) ?_
        refine lv_iadd hx hb dX8_pair_64 ?_
        refine va_put (D := D) (ci := 8) (v := .int (mpn + (1 : Int32))) (ty := .int) (C := RX8) (T := TX8) (N := 19) hx hb hts tnX8 tyX8 tyX8_ok nmX8 hown hK hP hD hS 0 rfl rfl 11 (by decide) (hts _ qw_156) (fun _ h9 => h9) rfl (by decide +kernel) rfl rfl (Nat.le_of_ble_eq_true rfl) dX8_pair_65 (fun H locs hP hD hS => ?_)
        have hP : va_P D vwCl (wdM cJ cI oM oM1 oM2 oM3 oM4 oM5 oM6 oM7 oM8 oM9 oM10 oM11 mw mt mrim mjn mhm (mpn + (1 : Int32)) mbm mgm mpi mst mam mac mro mbe (upd mhi mpn.toNatClampNeg a1) (upd mmi mpn.toNatClampNeg a2) mgr mtr mle) H := hP
        have hD : va_D A (wdM cJ cI oM oM1 oM2 oM3 oM4 oM5 oM6 oM7 oM8 oM9 oM10 oM11 mw mt mrim mjn mhm (mpn + (1 : Int32)) mbm mgm mpi mst mam mac mro mbe (upd mhi mpn.toNatClampNeg a1) (upd mmi mpn.toNatClampNeg a2) mgr mtr mle) := hD
        refine lv_aload_n hx hb dX8_pair_68 rfl (lv_at hl 0 rfl) ?_
        refine va_get (D := D) (ci := 8) (v := .int (mpn + (1 : Int32))) (C := RX8) (T := TX8) (N := 19) hx hb hts tnX8 hown hK hP 0 rfl rfl 11 (by decide) (hts _ qw_156) (fun _ h9 => h9) rfl dX8_pair_69 ?_
        refine lv_iconst (v := (1 : Int32)) hx hb dX8_pair_72 (by decide) ?_
        refine lv_isub hx hb dX8_pair_73 ?_
        have hm := Option.some.inj hm
        have e9 : r = ((mpn + (1 : Int32)) - (1 : Int32)) := (congrArg (fun q => q.1) hm).symm
        rw [e9] at K
        have e9 : y_mpn = (mpn + (1 : Int32)) := (congrArg (fun q => q.2.1) hm).symm
        rw [e9] at K
        have e9 : y_mhi = (upd mhi mpn.toNatClampNeg a1) := (congrArg (fun q => q.2.2.1) hm).symm
        rw [e9] at K
        have e9 : y_mmi = (upd mmi mpn.toNatClampNeg a2) := (congrArg (fun q => q.2.2.2) hm).symm
        rw [e9] at K
        exact K 74 ls _ _ dX8_pair_74 hP hD hS
      · rw [if_pos c5] at hm
        refine lv_bipush (v := (-4 : Int32)) hx hb dX8_pair_35 (by decide) ?_
        have hm := Option.some.inj hm
        have e9 : r = (-4 : Int32) := (congrArg (fun q => q.1) hm).symm
        rw [e9] at K
        have e9 : y_mpn = mpn := (congrArg (fun q => q.2.1) hm).symm
        rw [e9] at K
        have e9 : y_mhi = mhi := (congrArg (fun q => q.2.2.1) hm).symm
        rw [e9] at K
        have e9 : y_mmi = mmi := (congrArg (fun q => q.2.2.2) hm).symm
        rw [e9] at K
        exact K 37 ls _ _ dX8_pair_37 hP hD hS
    · rw [if_pos c4] at hm
      refine lv_iconst (v := (-1 : Int32)) hx hb dX8_pair_24 (by decide) ?_
      have hm := Option.some.inj hm
      have e9 : r = (-1 : Int32) := (congrArg (fun q => q.1) hm).symm
      rw [e9] at K
      have e9 : y_mpn = mpn := (congrArg (fun q => q.2.1) hm).symm
      rw [e9] at K
      have e9 : y_mhi = mhi := (congrArg (fun q => q.2.2.1) hm).symm
      rw [e9] at K
      have e9 : y_mmi = mmi := (congrArg (fun q => q.2.2.2) hm).symm
      rw [e9] at K
      exact K 25 ls _ _ dX8_pair_25 hP hD hS
set_option maxHeartbeats 4000000 in
set_option maxRecDepth 100000 in
theorem tX8_pair (l : Launch) {D : va_G} (sz : Nat) {a1 : Int32} {a2 : Int32} {r : Int32} {y_mpn : (Int32)} {y_mhi : (Nat → Int32)} {y_mmi : (Nat → Int32)} (hm : mX8_pair mpn mhi mmi a1 a2 = some (r, y_mpn, y_mhi, y_mmi)) : Met l yX8_pair (.code yX8_pair cX8_pair 3 (some .int) :: tw) ({ frames := 1, cells := 0, slots := 0, locals := 25 } : Room) (wrP D [.ref oM, .int a1, .int a2] (wdM cJ cI oM oM1 oM2 oM3 oM4 oM5 oM6 oM7 oM8 oM9 oM10 oM11 mw mt mrim mjn mhm mpn mbm mgm mpi mst mam mac mro mbe mhi mmi mgr mtr mle) [(cI, .int), (cJ, .long)] sz) (va_Qi (fun q (_ : Unit) => q = r) (fun (_ : Unit) (t : State) => va_P D vwCl (wdM cJ cI oM oM1 oM2 oM3 oM4 oM5 oM6 oM7 oM8 oM9 oM10 oM11 mw mt mrim mjn mhm y_mpn mbm mgm mpi mst mam mac mro mbe y_mhi y_mmi mgr mtr mle) t.heap ∧ va_K D vwCl [(cI, .int), (cJ, .long)] t ∧ va_D (va_A (wdM cJ cI oM oM1 oM2 oM3 oM4 oM5 oM6 oM7 oM8 oM9 oM10 oM11 mw mt mrim mjn mhm mpn mbm mgm mpi mst mam mac mro mbe mhi mmi mgr mtr mle) sz) (wdM cJ cI oM oM1 oM2 oM3 oM4 oM5 oM6 oM7 oM8 oM9 oM10 oM11 mw mt mrim mjn mhm y_mpn mbm mgm mpi mst mam mac mro mbe y_mhi y_mmi mgr mtr mle)) (va_A (wdM cJ cI oM oM1 oM2 oM3 oM4 oM5 oM6 oM7 oM8 oM9 oM10 oM11 mw mt mrim mjn mhm mpn mbm mgm mpi mst mam mac mro mbe mhi mmi mgr mtr mle) sz)) 0 0 (va_A (wdM cJ cI oM oM1 oM2 oM3 oM4 oM5 oM6 oM7 oM8 oM9 oM10 oM11 mw mt mrim mjn mhm mpn mbm mgm mpi mst mam mac mro mbe mhi mmi mgr mtr mle) sz) := by
  refine Met.ofW (cc := cX8_pair) (maxL := 3) (ret := (some .int)) (by decide) rfl ?_
  intro p e s m args below meth c s₁ B hml hv
  obtain ⟨rfl, hsz, hP, hK, hD0⟩ := hv
  have hx := B.exec
  have hb := B.bytes
  have hr := B.returns
  have hts : ∀ w ∈ tw, w.before _ s = true := fun w h => atoms_spec (ws := .code yX8_pair cX8_pair 3 (some .int) :: tw) B.pre w (List.mem_cons_of_mem _ h)
  have hown : s.vm.findClass RX8 = some m.cls := findClass_of_methodNamed B.named
  have hlocks := B.notSynchronized
  subst hsz
  have hD := hD0.self (sz := s.heap.size)
  have hl := lv_entry ([.ref oM, .int a1, .int a2]) (n := 3) (Nat.le_of_ble_eq_true rfl)
  rw [lg_entry_eq]
  generalize (lg_sl ([.ref oM, .int a1, .int a2]) ++ List.replicate (3 - (lg_sl ([.ref oM, .int a1, .int a2])).length) Slot.unset).toArray = ls at hl ⊢
  refine bX8_pair hx hb hml hown hts hK (fun q h => Or.inr h) ⟨Nat.le_of_ble_eq_true rfl, Nat.le_of_ble_eq_true rfl, Nat.zero_le _, Nat.zero_le _⟩ hm ls hl hP hD va_S.rf (fun pc ls H locs hd hP hD hS => ?_)
  exact W.iret hx hb hr (fun t ht hW => ⟨⟨r, (), rfl, rfl, by rw [ht]; exact hP, va_K.moved hW.alike hK, hD⟩, hS.F ht⟩) hS.2.2 hd
set_option maxHeartbeats 4000000 in
set_option maxRecDepth 100000 in
theorem kX8_pair {own : String} {cc : ByteArray} {nL idx pc : Nat} {ls : Array Slot} {rest : List Value} {ws wr : va_W} {a1 : Int32} {a2 : Int32} {r : Int32} {y_mpn : (Int32)} {y_mhi : (Nat → Int32)} {y_mmi : (Nat → Int32)} (fx : CallFix p m c cc nL s args tw own) (hq : Cond.methodLink own idx yX8_pair ∈ tw) (isC isR : List Nat) (hC : isC.map (fun i => ws[i]?) = ((wdM cJ cI oM oM1 oM2 oM3 oM4 oM5 oM6 oM7 oM8 oM9 oM10 oM11 mw mt mrim mjn mhm mpn mbm mgm mpi mst mam mac mro mbe mhi mmi mgr mtr mle) : va_W).map some) (hRr : isR.map (fun i => ws[i]?) = wr.map some) (hnC : va_nd isC = true) (hn : va_nd isR = true) (hdis : ∀ i ∈ isR, i ∉ isC) (hK : va_K D vwCl [(cI, .int), (cJ, .long)] s) (hm : mX8_pair mpn mhi mmi a1 a2 = some (r, y_mpn, y_mhi, y_mmi)) (hsz : ls.size = nL) (hR : 2 ≤ R.frames ∧ 47 ≤ R.locals ∧ cells ≤ R.cells ∧ slots ≤ R.slots) (hst : (rest.map fun v => v.category).sum ≤ 8) (hd : decode cc pc = .ok (.invokevirtual idx, 3)) (hP : va_P D vwCl ws H) (hD : va_D A ws) (hS : va_S A s.heap H locs) (hA : ∀ q, s.heap.size ≤ q → A q) (kk : ∀ (H : Heap) (locs : List Loc), va_P D vwCl (wr ++ (wdM cJ cI oM oM1 oM2 oM3 oM4 oM5 oM6 oM7 oM8 oM9 oM10 oM11 mw mt mrim mjn mhm y_mpn mbm mgm mpi mst mam mac mro mbe y_mhi y_mmi mgr mtr mle)) H → va_D A (wr ++ (wdM cJ cI oM oM1 oM2 oM3 oM4 oM5 oM6 oM7 oM8 oM9 oM10 oM11 mw mt mrim mjn mhm y_mpn mbm mgm mpi mst mam mac mro mbe y_mhi y_mmi mgr mtr mle)) → va_S A s.heap H locs → W p l e R s m args below meth c H locs cells slots Q (F0 m (pc + 3) ls (.int r :: rest))) : W p l e R s m args below meth c H locs cells slots Q (F0 m pc ls (.int a2 :: .int a1 :: .ref oM :: rest)) := by
  have hPc := va_P.subM hP isC hC
  have hDc := hD.sub isC hnC hC
  have hFc := va_free (wc := (wdM cJ cI oM oM1 oM2 oM3 oM4 oM5 oM6 oM7 oM8 oM9 oM10 oM11 mw mt mrim mjn mhm mpn mbm mgm mpi mst mam mac mro mbe mhi mmi mgr mtr mle)) hD hS hA isC hC
  refine va_calli (va_runV (As := [.int a1, .int a2]) (rest := rest) fx (tX8_pair l H.size hm) (cwV 2 fx.2.2.2.2 (tw_V hq qw_487 qw_488 qw_53 qw_489) rfl rfl rfl (by decide +kernel) ⟨hR.1, hR.2.1⟩) ⟨wrP_bl, va_recv hK hPc (ci := 8) (q0 := 0) rfl rfl, wrP_ok hPc hK hDc⟩ rfl rfl hsz rfl (lv_room hst) hd ⟨hR.2.2.1, hR.2.2.2⟩) hS (fun q _ h => hFc q h) hFc (fun r9 u t H1 locs ht hvm hw hB hz1 hk1 hS => ?_)
  obtain ⟨hP1, hK1, hD1⟩ := hB
  rw [ht] at hP1
  rw [hw]
  obtain ⟨hP2, hD2⟩ := va_join (wr := wr) (w1 := (wdM cJ cI oM oM1 oM2 oM3 oM4 oM5 oM6 oM7 oM8 oM9 oM10 oM11 mw mt mrim mjn mhm y_mpn mbm mgm mpi mst mam mac mro mbe y_mhi y_mmi mgr mtr mle)) hP hD isC isR hC hRr hn hdis hk1 hFc hP1 hD1
  exact kk H1 locs hP2 hD2 hS
-- X8_forget
def mX8_forget (mpn : Int32) : Option (Int32 × (Int32)) :=
  (if mpn = 0 then (some ((-3 : Int32), mpn)) else (some ((mpn - (1 : Int32)), (mpn - (1 : Int32)))))
theorem dX8_forget_0 : decode cX8_forget 0 = .ok (.aload_n 0, 1) := by decide +kernel
theorem dX8_forget_1 : decode cX8_forget 1 = .ok (.getfield 159, 3) := by decide +kernel
theorem dX8_forget_4 : decode cX8_forget 4 = .ok (.ifCond .ne 6, 3) := by decide +kernel
theorem dX8_forget_7 : decode cX8_forget 7 = .ok (.bipush (-3), 2) := by decide +kernel
theorem dX8_forget_9 : decode cX8_forget 9 = .ok (.ireturn, 1) := by decide +kernel
theorem dX8_forget_10 : decode cX8_forget 10 = .ok (.aload_n 0, 1) := by decide +kernel
theorem dX8_forget_11 : decode cX8_forget 11 = .ok (.dup, 1) := by decide +kernel
theorem dX8_forget_12 : decode cX8_forget 12 = .ok (.getfield 159, 3) := by decide +kernel
theorem dX8_forget_15 : decode cX8_forget 15 = .ok (.iconst 1, 1) := by decide +kernel
theorem dX8_forget_16 : decode cX8_forget 16 = .ok (.isub, 1) := by decide +kernel
theorem dX8_forget_17 : decode cX8_forget 17 = .ok (.putfield 159, 3) := by decide +kernel
theorem dX8_forget_20 : decode cX8_forget 20 = .ok (.aload_n 0, 1) := by decide +kernel
theorem dX8_forget_21 : decode cX8_forget 21 = .ok (.getfield 159, 3) := by decide +kernel
theorem dX8_forget_24 : decode cX8_forget 24 = .ok (.ireturn, 1) := by decide +kernel
set_option maxHeartbeats 4000000 in
set_option maxRecDepth 100000 in
theorem bX8_forget {r : Int32} {y_mpn : (Int32)} (hx : p.tables.exec = Jvm.exec) (hb : c.code = cX8_forget) (hml : c.maxLocals = 1) (hown : s.vm.findClass RX8 = some m.cls) (hts : ∀ w ∈ tw, w.before args s = true) (hK : va_K D vwCl [(cI, .int), (cJ, .long)] s) (hA : ∀ q, s.heap.size ≤ q → A q) (hR : 0 ≤ R.frames ∧ 0 ≤ R.locals ∧ cells ≤ R.cells ∧ slots ≤ R.slots) (hm : mX8_forget mpn = some (r, y_mpn)) (ls : Array Slot) (hl : lv_has ls 1 [(0, .ref oM)]) (hP : va_P D vwCl (wdM cJ cI oM oM1 oM2 oM3 oM4 oM5 oM6 oM7 oM8 oM9 oM10 oM11 mw mt mrim mjn mhm mpn mbm mgm mpi mst mam mac mro mbe mhi mmi mgr mtr mle) H) (hD : va_D A (wdM cJ cI oM oM1 oM2 oM3 oM4 oM5 oM6 oM7 oM8 oM9 oM10 oM11 mw mt mrim mjn mhm mpn mbm mgm mpi mst mam mac mro mbe mhi mmi mgr mtr mle)) (hS : va_S A s.heap H locs) (K : ∀ (pc : Nat) (ls : Array Slot) (H : Heap) (locs : List Loc), decode cX8_forget pc = .ok (.ireturn, 1) → va_P D vwCl (wdM cJ cI oM oM1 oM2 oM3 oM4 oM5 oM6 oM7 oM8 oM9 oM10 oM11 mw mt mrim mjn mhm y_mpn mbm mgm mpi mst mam mac mro mbe mhi mmi mgr mtr mle) H → va_D A (wdM cJ cI oM oM1 oM2 oM3 oM4 oM5 oM6 oM7 oM8 oM9 oM10 oM11 mw mt mrim mjn mhm y_mpn mbm mgm mpi mst mam mac mro mbe mhi mmi mgr mtr mle) → va_S A s.heap H locs → W p l e R s m args below meth c H locs cells slots Q (F0 m pc ls [.int r])) : W p l e R s m args below meth c H locs cells slots Q (F0 m 0 ls []) := by
  unfold mX8_forget at hm
  refine lv_aload_n hx hb dX8_forget_0 rfl (lv_at hl 0 rfl) ?_
  refine va_get (D := D) (ci := 8) (v := .int mpn) (C := RX8) (T := TX8) (N := 19) hx hb hts tnX8 hown hK hP 0 rfl rfl 11 (by decide) (hts _ qw_156) (fun _ h9 => h9) rfl dX8_forget_1 ?_
  refine lv_if_ne (tgt := 10) hx hb dX8_forget_4 (by decide) (fun c1 => ?_) (fun c1 => ?_)
  · rw [if_neg c1] at hm
    refine lv_aload_n hx hb dX8_forget_10 rfl (lv_at hl 0 rfl) ?_
    refine lv_dup hx hb dX8_forget_11 rfl ?_
    refine va_get (D := D) (ci := 8) (v := .int mpn) (C := RX8) (T := TX8) (N := 19) hx hb hts tnX8 hown hK hP 0 rfl rfl 11 (by decide) (hts _ qw_156) (fun _ h9 => h9) rfl dX8_forget_12 ?_
    refine lv_iconst (v := (1 : Int32)) hx hb dX8_forget_15 (by decide) ?_
    refine lv_isub hx hb dX8_forget_16 ?_
    refine va_put (D := D) (ci := 8) (v := .int (mpn - (1 : Int32))) (ty := .int) (C := RX8) (T := TX8) (N := 19) hx hb hts tnX8 tyX8 tyX8_ok nmX8 hown hK hP hD hS 0 rfl rfl 11 (by decide) (hts _ qw_156) (fun _ h9 => h9) rfl (by decide +kernel) rfl rfl (Nat.le_of_ble_eq_true rfl) dX8_forget_17 (fun H locs hP hD hS => ?_)
    have hP : va_P D vwCl (wdM cJ cI oM oM1 oM2 oM3 oM4 oM5 oM6 oM7 oM8 oM9 oM10 oM11 mw mt mrim mjn mhm (mpn - (1 : Int32)) mbm mgm mpi mst mam mac mro mbe mhi mmi mgr mtr mle) H := hP
    have hD : va_D A (wdM cJ cI oM oM1 oM2 oM3 oM4 oM5 oM6 oM7 oM8 oM9 oM10 oM11 mw mt mrim mjn mhm (mpn - (1 : Int32)) mbm mgm mpi mst mam mac mro mbe mhi mmi mgr mtr mle) := hD
    refine lv_aload_n hx hb dX8_forget_20 rfl (lv_at hl 0 rfl) ?_
    refine va_get (D := D) (ci := 8) (v := .int (mpn - (1 : Int32))) (C := RX8) (T := TX8) (N := 19) hx hb hts tnX8 hown hK hP 0 rfl rfl 11 (by decide) (hts _ qw_156) (fun _ h9 => h9) rfl dX8_forget_21 ?_
    have hm := Option.some.inj hm
    have e9 : r = (mpn - (1 : Int32)) := (congrArg (fun q => q.1) hm).symm
    rw [e9] at K
    have e9 : y_mpn = (mpn - (1 : Int32)) := (congrArg (fun q => q.2) hm).symm
    rw [e9] at K
    exact K 24 ls _ _ dX8_forget_24 hP hD hS
  · rw [if_pos c1] at hm
    refine lv_bipush (v := (-3 : Int32)) hx hb dX8_forget_7 (by decide) ?_
    have hm := Option.some.inj hm
    have e9 : r = (-3 : Int32) := (congrArg (fun q => q.1) hm).symm
    rw [e9] at K
    have e9 : y_mpn = mpn := (congrArg (fun q => q.2) hm).symm
    rw [e9] at K
    exact K 9 ls _ _ dX8_forget_9 hP hD hS
set_option maxHeartbeats 4000000 in
set_option maxRecDepth 100000 in
theorem tX8_forget (l : Launch) {D : va_G} (sz : Nat) {r : Int32} {y_mpn : (Int32)} (hm : mX8_forget mpn = some (r, y_mpn)) : Met l yX8_forget (.code yX8_forget cX8_forget 1 (some .int) :: tw) ({ frames := 0, cells := 0, slots := 0, locals := 0 } : Room) (wrP D [.ref oM] (wdM cJ cI oM oM1 oM2 oM3 oM4 oM5 oM6 oM7 oM8 oM9 oM10 oM11 mw mt mrim mjn mhm mpn mbm mgm mpi mst mam mac mro mbe mhi mmi mgr mtr mle) [(cI, .int), (cJ, .long)] sz) (va_Qi (fun q (_ : Unit) => q = r) (fun (_ : Unit) (t : State) => va_P D vwCl (wdM cJ cI oM oM1 oM2 oM3 oM4 oM5 oM6 oM7 oM8 oM9 oM10 oM11 mw mt mrim mjn mhm y_mpn mbm mgm mpi mst mam mac mro mbe mhi mmi mgr mtr mle) t.heap ∧ va_K D vwCl [(cI, .int), (cJ, .long)] t ∧ va_D (va_A (wdM cJ cI oM oM1 oM2 oM3 oM4 oM5 oM6 oM7 oM8 oM9 oM10 oM11 mw mt mrim mjn mhm mpn mbm mgm mpi mst mam mac mro mbe mhi mmi mgr mtr mle) sz) (wdM cJ cI oM oM1 oM2 oM3 oM4 oM5 oM6 oM7 oM8 oM9 oM10 oM11 mw mt mrim mjn mhm y_mpn mbm mgm mpi mst mam mac mro mbe mhi mmi mgr mtr mle)) (va_A (wdM cJ cI oM oM1 oM2 oM3 oM4 oM5 oM6 oM7 oM8 oM9 oM10 oM11 mw mt mrim mjn mhm mpn mbm mgm mpi mst mam mac mro mbe mhi mmi mgr mtr mle) sz)) 0 0 (va_A (wdM cJ cI oM oM1 oM2 oM3 oM4 oM5 oM6 oM7 oM8 oM9 oM10 oM11 mw mt mrim mjn mhm mpn mbm mgm mpi mst mam mac mro mbe mhi mmi mgr mtr mle) sz) := by
  refine Met.ofW (cc := cX8_forget) (maxL := 1) (ret := (some .int)) (by decide) rfl ?_
  intro p e s m args below meth c s₁ B hml hv
  obtain ⟨rfl, hsz, hP, hK, hD0⟩ := hv
  have hx := B.exec
  have hb := B.bytes
  have hr := B.returns
  have hts : ∀ w ∈ tw, w.before _ s = true := fun w h => atoms_spec (ws := .code yX8_forget cX8_forget 1 (some .int) :: tw) B.pre w (List.mem_cons_of_mem _ h)
  have hown : s.vm.findClass RX8 = some m.cls := findClass_of_methodNamed B.named
  have hlocks := B.notSynchronized
  subst hsz
  have hD := hD0.self (sz := s.heap.size)
  have hl := lv_entry ([.ref oM]) (n := 1) (Nat.le_of_ble_eq_true rfl)
  rw [lg_entry_eq]
  generalize (lg_sl ([.ref oM]) ++ List.replicate (1 - (lg_sl ([.ref oM])).length) Slot.unset).toArray = ls at hl ⊢
  refine bX8_forget hx hb hml hown hts hK (fun q h => Or.inr h) ⟨Nat.le_of_ble_eq_true rfl, Nat.le_of_ble_eq_true rfl, Nat.zero_le _, Nat.zero_le _⟩ hm ls hl hP hD va_S.rf (fun pc ls H locs hd hP hD hS => ?_)
  exact W.iret hx hb hr (fun t ht hW => ⟨⟨r, (), rfl, rfl, by rw [ht]; exact hP, va_K.moved hW.alike hK, hD⟩, hS.F ht⟩) hS.2.2 hd
set_option maxHeartbeats 4000000 in
set_option maxRecDepth 100000 in
theorem kX8_forget {own : String} {cc : ByteArray} {nL idx pc : Nat} {ls : Array Slot} {rest : List Value} {ws wr : va_W} {r : Int32} {y_mpn : (Int32)} (fx : CallFix p m c cc nL s args tw own) (hq : Cond.methodLink own idx yX8_forget ∈ tw) (isC isR : List Nat) (hC : isC.map (fun i => ws[i]?) = ((wdM cJ cI oM oM1 oM2 oM3 oM4 oM5 oM6 oM7 oM8 oM9 oM10 oM11 mw mt mrim mjn mhm mpn mbm mgm mpi mst mam mac mro mbe mhi mmi mgr mtr mle) : va_W).map some) (hRr : isR.map (fun i => ws[i]?) = wr.map some) (hnC : va_nd isC = true) (hn : va_nd isR = true) (hdis : ∀ i ∈ isR, i ∉ isC) (hK : va_K D vwCl [(cI, .int), (cJ, .long)] s) (hm : mX8_forget mpn = some (r, y_mpn)) (hsz : ls.size = nL) (hR : 1 ≤ R.frames ∧ 20 ≤ R.locals ∧ cells ≤ R.cells ∧ slots ≤ R.slots) (hst : (rest.map fun v => v.category).sum ≤ 8) (hd : decode cc pc = .ok (.invokevirtual idx, 3)) (hP : va_P D vwCl ws H) (hD : va_D A ws) (hS : va_S A s.heap H locs) (hA : ∀ q, s.heap.size ≤ q → A q) (kk : ∀ (H : Heap) (locs : List Loc), va_P D vwCl (wr ++ (wdM cJ cI oM oM1 oM2 oM3 oM4 oM5 oM6 oM7 oM8 oM9 oM10 oM11 mw mt mrim mjn mhm y_mpn mbm mgm mpi mst mam mac mro mbe mhi mmi mgr mtr mle)) H → va_D A (wr ++ (wdM cJ cI oM oM1 oM2 oM3 oM4 oM5 oM6 oM7 oM8 oM9 oM10 oM11 mw mt mrim mjn mhm y_mpn mbm mgm mpi mst mam mac mro mbe mhi mmi mgr mtr mle)) → va_S A s.heap H locs → W p l e R s m args below meth c H locs cells slots Q (F0 m (pc + 3) ls (.int r :: rest))) : W p l e R s m args below meth c H locs cells slots Q (F0 m pc ls (.ref oM :: rest)) := by
  have hPc := va_P.subM hP isC hC
  have hDc := hD.sub isC hnC hC
  have hFc := va_free (wc := (wdM cJ cI oM oM1 oM2 oM3 oM4 oM5 oM6 oM7 oM8 oM9 oM10 oM11 mw mt mrim mjn mhm mpn mbm mgm mpi mst mam mac mro mbe mhi mmi mgr mtr mle)) hD hS hA isC hC
  refine va_calli (va_runV (As := []) (rest := rest) fx (tX8_forget l H.size hm) (cwV 0 fx.2.2.2.2 (tw_V hq qw_490 qw_491 qw_53 qw_492) rfl rfl rfl (by decide +kernel) ⟨hR.1, hR.2.1⟩) ⟨wrP_bl, va_recv hK hPc (ci := 8) (q0 := 0) rfl rfl, wrP_ok hPc hK hDc⟩ rfl rfl hsz rfl (lv_room hst) hd ⟨hR.2.2.1, hR.2.2.2⟩) hS (fun q _ h => hFc q h) hFc (fun r9 u t H1 locs ht hvm hw hB hz1 hk1 hS => ?_)
  obtain ⟨hP1, hK1, hD1⟩ := hB
  rw [ht] at hP1
  rw [hw]
  obtain ⟨hP2, hD2⟩ := va_join (wr := wr) (w1 := (wdM cJ cI oM oM1 oM2 oM3 oM4 oM5 oM6 oM7 oM8 oM9 oM10 oM11 mw mt mrim mjn mhm y_mpn mbm mgm mpi mst mam mac mro mbe mhi mmi mgr mtr mle)) hP hD isC isR hC hRr hn hdis hk1 hFc hP1 hD1
  exact kk H1 locs hP2 hD2 hS
-- X8_thin
def mX8_thin_L28 (n : Nat) (mpn : Int32) (v1 : Int32) (mw : Int32) (mt : Int32) (mhi : Nat → Int32) (mst : Nat → Int32) (mmi : Nat → Int32) : Nat → (Int32) → (Nat → Int64) → Option ((Nat → Int64))
  | 0, _, _ => none
  | k + 1, v6, mpi => (if mpn ≤ v6 then some (mpi) else gd (ib v1 5) (gd (ib v1 5) (jb (mX8_hitsOf n mw mt mhi mst mmi (mpi v1.toNatClampNeg) v6) (fun (r10 : Int64) => gd (ib v1 5) (mX8_thin_L28 n mpn v1 mw mt mhi mst mmi k (v6 + (1 : Int32)) (vp_updL mpi v1.toNatClampNeg ((mpi v1.toNatClampNeg) &&& (r10 ^^^ (-1 : Int64)))))))))
def mX8_thin_L13 (n : Nat) (v1 : Int32) (mpn : Int32) (mw : Int32) (mt : Int32) (mhi : Nat → Int32) (mst : Nat → Int32) (mmi : Nat → Int32) : Nat → (Int32) → (Int32) → (Nat → Int64) → Option ((Int32) × (Nat → Int64))
  | 0, _, _, _ => none
  | k + 1, v2, v3, mpi => (if v3 = 0 then some ((v2, mpi)) else gd (ib v1 5) (jb (mX8_thin_L28 n mpn v1 mw mt mhi mst mmi n (0 : Int32) mpi) (fun (y13 : Nat → Int64) => gd (ib v1 5) (jl (if (y13 v1.toNatClampNeg) = (mpi v1.toNatClampNeg) then (0 : Int32) else (1 : Int32)) (fun j16 => jl (if j16 = 0 then (0 : Int32) else (1 : Int32)) (fun j20 => mX8_thin_L13 n v1 mpn mw mt mhi mst mmi k (v2 + j20) j16 y13))))))
def mX8_thin (n : Nat) (mpi : Nat → Int64) (mpn : Int32) (mw : Int32) (mt : Int32) (mhi : Nat → Int32) (mst : Nat → Int32) (mmi : Nat → Int32) (a1 : Int32) : Option (Int32 × (Nat → Int64)) :=
  (if (mX8_isPicture a1) = 0 then (some ((-1 : Int32), mpi)) else jb2 (mX8_thin_L13 n a1 mpn mw mt mhi mst mmi n (0 : Int32) (1 : Int32) mpi) (fun (y24 : Int32) (y25 : Nat → Int64) => (some (y24, y25))))
theorem dX8_thin_0 : decode cX8_thin 0 = .ok (.iload_n 1, 1) := by decide +kernel
theorem dX8_thin_1 : decode cX8_thin 1 = .ok (.invokestatic 71, 3) := by decide +kernel
theorem dX8_thin_4 : decode cX8_thin 4 = .ok (.ifCond .ne 5, 3) := by decide +kernel
theorem dX8_thin_7 : decode cX8_thin 7 = .ok (.iconst (-1), 1) := by decide +kernel
theorem dX8_thin_8 : decode cX8_thin 8 = .ok (.ireturn, 1) := by decide +kernel
theorem dX8_thin_9 : decode cX8_thin 9 = .ok (.iconst 0, 1) := by decide +kernel
theorem dX8_thin_10 : decode cX8_thin 10 = .ok (.istore_n 2, 1) := by decide +kernel
theorem dX8_thin_11 : decode cX8_thin 11 = .ok (.iconst 1, 1) := by decide +kernel
theorem dX8_thin_12 : decode cX8_thin 12 = .ok (.istore_n 3, 1) := by decide +kernel
theorem dX8_thin_13 : decode cX8_thin 13 = .ok (.iload_n 3, 1) := by decide +kernel
theorem dX8_thin_14 : decode cX8_thin 14 = .ok (.ifCond .eq 87, 3) := by decide +kernel
theorem dX8_thin_17 : decode cX8_thin 17 = .ok (.aload_n 0, 1) := by decide +kernel
theorem dX8_thin_18 : decode cX8_thin 18 = .ok (.getfield 16, 3) := by decide +kernel
theorem dX8_thin_21 : decode cX8_thin 21 = .ok (.iload_n 1, 1) := by decide +kernel
theorem dX8_thin_22 : decode cX8_thin 22 = .ok (.laload, 1) := by decide +kernel
theorem dX8_thin_23 : decode cX8_thin 23 = .ok (.lstore 4, 2) := by decide +kernel
theorem dX8_thin_25 : decode cX8_thin 25 = .ok (.iconst 0, 1) := by decide +kernel
theorem dX8_thin_26 : decode cX8_thin 26 = .ok (.istore 6, 2) := by decide +kernel
theorem dX8_thin_28 : decode cX8_thin 28 = .ok (.iload 6, 2) := by decide +kernel
theorem dX8_thin_30 : decode cX8_thin 30 = .ok (.aload_n 0, 1) := by decide +kernel
theorem dX8_thin_31 : decode cX8_thin 31 = .ok (.getfield 159, 3) := by decide +kernel
theorem dX8_thin_34 : decode cX8_thin 34 = .ok (.if_icmp .ge 34, 3) := by decide +kernel
theorem dX8_thin_37 : decode cX8_thin 37 = .ok (.aload_n 0, 1) := by decide +kernel
theorem dX8_thin_38 : decode cX8_thin 38 = .ok (.getfield 16, 3) := by decide +kernel
theorem dX8_thin_41 : decode cX8_thin 41 = .ok (.iload_n 1, 1) := by decide +kernel
theorem dX8_thin_42 : decode cX8_thin 42 = .ok (.dup2, 1) := by decide +kernel
theorem dX8_thin_43 : decode cX8_thin 43 = .ok (.laload, 1) := by decide +kernel
theorem dX8_thin_44 : decode cX8_thin 44 = .ok (.aload_n 0, 1) := by decide +kernel
theorem dX8_thin_45 : decode cX8_thin 45 = .ok (.aload_n 0, 1) := by decide +kernel
theorem dX8_thin_46 : decode cX8_thin 46 = .ok (.getfield 16, 3) := by decide +kernel
theorem dX8_thin_49 : decode cX8_thin 49 = .ok (.iload_n 1, 1) := by decide +kernel
theorem dX8_thin_50 : decode cX8_thin 50 = .ok (.laload, 1) := by decide +kernel
theorem dX8_thin_51 : decode cX8_thin 51 = .ok (.iload 6, 2) := by decide +kernel
theorem dX8_thin_53 : decode cX8_thin 53 = .ok (.invokevirtual 162, 3) := by decide +kernel
theorem dX8_thin_56 : decode cX8_thin 56 = .ok (.ldc2_w 82, 3) := by decide +kernel
theorem dX8_thin_59 : decode cX8_thin 59 = .ok (.lxor, 1) := by decide +kernel
theorem dX8_thin_60 : decode cX8_thin 60 = .ok (.land, 1) := by decide +kernel
theorem dX8_thin_61 : decode cX8_thin 61 = .ok (.lastore, 1) := by decide +kernel
theorem dX8_thin_62 : decode cX8_thin 62 = .ok (.iinc 6 1, 3) := by decide +kernel
theorem dX8_thin_65 : decode cX8_thin 65 = .ok (.goto (-37), 3) := by decide +kernel
theorem dX8_thin_68 : decode cX8_thin 68 = .ok (.aload_n 0, 1) := by decide +kernel
theorem dX8_thin_69 : decode cX8_thin 69 = .ok (.getfield 16, 3) := by decide +kernel
theorem dX8_thin_72 : decode cX8_thin 72 = .ok (.iload_n 1, 1) := by decide +kernel
theorem dX8_thin_73 : decode cX8_thin 73 = .ok (.laload, 1) := by decide +kernel
theorem dX8_thin_74 : decode cX8_thin 74 = .ok (.lload 4, 2) := by decide +kernel
theorem dX8_thin_76 : decode cX8_thin 76 = .ok (.lcmp, 1) := by decide +kernel
theorem dX8_thin_77 : decode cX8_thin 77 = .ok (.ifCond .eq 7, 3) := by decide +kernel
theorem dX8_thin_80 : decode cX8_thin 80 = .ok (.iconst 1, 1) := by decide +kernel
theorem dX8_thin_81 : decode cX8_thin 81 = .ok (.goto 4, 3) := by decide +kernel
theorem dX8_thin_84 : decode cX8_thin 84 = .ok (.iconst 0, 1) := by decide +kernel
theorem dX8_thin_85 : decode cX8_thin 85 = .ok (.istore_n 3, 1) := by decide +kernel
theorem dX8_thin_86 : decode cX8_thin 86 = .ok (.iload_n 2, 1) := by decide +kernel
theorem dX8_thin_87 : decode cX8_thin 87 = .ok (.iload_n 3, 1) := by decide +kernel
theorem dX8_thin_88 : decode cX8_thin 88 = .ok (.ifCond .eq 7, 3) := by decide +kernel
theorem dX8_thin_91 : decode cX8_thin 91 = .ok (.iconst 1, 1) := by decide +kernel
theorem dX8_thin_92 : decode cX8_thin 92 = .ok (.goto 4, 3) := by decide +kernel
theorem dX8_thin_95 : decode cX8_thin 95 = .ok (.iconst 0, 1) := by decide +kernel
theorem dX8_thin_96 : decode cX8_thin 96 = .ok (.iadd, 1) := by decide +kernel
theorem dX8_thin_97 : decode cX8_thin 97 = .ok (.istore_n 2, 1) := by decide +kernel
theorem dX8_thin_98 : decode cX8_thin 98 = .ok (.goto (-85), 3) := by decide +kernel
theorem dX8_thin_101 : decode cX8_thin 101 = .ok (.iload_n 2, 1) := by decide +kernel
theorem dX8_thin_102 : decode cX8_thin 102 = .ok (.ireturn, 1) := by decide +kernel
set_option maxHeartbeats 4000000 in
set_option maxRecDepth 100000 in
theorem wX8_thin_L28 {n : Nat} {v1 : Int32} {v2 : Int32} {v4 : Int64} (hx : p.tables.exec = Jvm.exec) (hb : c.code = cX8_thin) (hml : c.maxLocals = 7) (hown : s.vm.findClass RX8 = some m.cls) (hts : ∀ w ∈ tw, w.before args s = true) (hK : va_K D vwCl [(cI, .int), (cJ, .long)] s) (hA : ∀ q, s.heap.size ≤ q → A q) (hR : 3 ≤ R.frames ∧ 81 ≤ R.locals ∧ cells ≤ R.cells ∧ slots ≤ R.slots) : ∀ (k : Nat) (v6 : Int32) (mpi : Nat → Int64) (x_mpi : Nat → Int64), mX8_thin_L28 n mpn v1 mw mt mhi mst mmi k v6 mpi = some (x_mpi) → ∀ ls : Array Slot, lv_has ls 7 [(0, .ref oM), (1, .int v1), (2, .int v2), (4, .long v4), (6, .int v6)] → ∀ (H : Heap) (locs : List Loc), va_P D vwCl (wdM cJ cI oM oM1 oM2 oM3 oM4 oM5 oM6 oM7 oM8 oM9 oM10 oM11 mw mt mrim mjn mhm mpn mbm mgm mpi mst mam mac mro mbe mhi mmi mgr mtr mle) H → va_D A (wdM cJ cI oM oM1 oM2 oM3 oM4 oM5 oM6 oM7 oM8 oM9 oM10 oM11 mw mt mrim mjn mhm mpn mbm mgm mpi mst mam mac mro mbe mhi mmi mgr mtr mle) → va_S A s.heap H locs → (∀ ls : Array Slot, lv_has ls 7 [(0, .ref oM), (1, .int v1), (2, .int v2), (4, .long v4)] → ∀ (H : Heap) (locs : List Loc), va_P D vwCl (wdM cJ cI oM oM1 oM2 oM3 oM4 oM5 oM6 oM7 oM8 oM9 oM10 oM11 mw mt mrim mjn mhm mpn mbm mgm x_mpi mst mam mac mro mbe mhi mmi mgr mtr mle) H → va_D A (wdM cJ cI oM oM1 oM2 oM3 oM4 oM5 oM6 oM7 oM8 oM9 oM10 oM11 mw mt mrim mjn mhm mpn mbm mgm x_mpi mst mam mac mro mbe mhi mmi mgr mtr mle) → va_S A s.heap H locs → W p l e R s m args below meth c H locs cells slots Q (F0 m 68 ls [])) → W p l e R s m args below meth c H locs cells slots Q (F0 m 28 ls []) := by
  intro k
  induction k with
  | zero => intro v6 mpi x_mpi hm; rw [mX8_thin_L28] at hm; cases hm
  | succ k ih =>
    intro v6 mpi x_mpi hm ls hl H locs hP hD hS K0
    rw [mX8_thin_L28] at hm
    refine lv_iload hx hb dX8_thin_28 (lv_at hl 4 rfl) ?_
    refine lv_aload_n hx hb dX8_thin_30 rfl (lv_at hl 0 rfl) ?_
    refine va_get (D := D) (ci := 8) (v := .int mpn) (C := RX8) (T := TX8) (N := 19) hx hb hts tnX8 hown hK hP 0 rfl rfl 11 (by decide) (hts _ qw_156) (fun _ h9 => h9) rfl dX8_thin_31 ?_
    refine lv_icmp_ge (tgt := 68) hx hb dX8_thin_34 (by decide) (fun c7 => ?_) (fun c7 => ?_)
    · rw [if_pos c7] at hm
      have hm := Option.some.inj hm
      have e9 : x_mpi = mpi := (congrArg (fun q => q) hm).symm
      rw [e9] at K0
      exact K0 ls (lv_sub hl [0, 1, 2, 3] rfl) _ _ hP hD hS
    · rw [if_neg c7] at hm
      refine lv_aload_n hx hb dX8_thin_37 rfl (lv_at hl 0 rfl) ?_
      refine va_get (D := D) (ci := 8) (v := .ref oM1) (C := RX8) (T := TX8) (N := 19) hx hb hts tnX8 hown hK hP 0 rfl rfl 2 (by decide) (hts _ qw_103) (fun _ h9 => h9) rfl dX8_thin_38 ?_
      refine lv_iload_n hx hb dX8_thin_41 rfl (lv_at hl 1 rfl) ?_
      refine lv_dup2_11 hx hb dX8_thin_42 rfl rfl ?_
      obtain ⟨g8, hm⟩ := gd_out hm
      refine va_lald hx hb hK hP 1 1 rfl rfl g8 dX8_thin_43 ?_
      refine lv_aload_n hx hb dX8_thin_44 rfl (lv_at hl 0 rfl) ?_
      refine lv_aload_n hx hb dX8_thin_45 rfl (lv_at hl 0 rfl) ?_
      refine va_get (D := D) (ci := 8) (v := .ref oM1) (C := RX8) (T := TX8) (N := 19) hx hb hts tnX8 hown hK hP 0 rfl rfl 2 (by decide) (hts _ qw_103) (fun _ h9 => h9) rfl dX8_thin_46 ?_
      refine lv_iload_n hx hb dX8_thin_49 rfl (lv_at hl 1 rfl) ?_
      obtain ⟨g9, hm⟩ := gd_out hm
      refine va_lald hx hb hK hP 1 1 rfl rfl g9 dX8_thin_50 ?_
      refine lv_iload hx hb dX8_thin_51 (lv_at hl 4 rfl) ?_
      obtain ⟨r10, h11, hm⟩ := jb_out hm
      refine kX8_hitsOf ⟨hx, hb, hml, hown, hts⟩ qw_157 hP hK h11 hl.1 ⟨Nat.le_trans (by decide) hR.1, Nat.le_trans (by decide) hR.2.1, hR.2.2⟩ (Nat.le_of_ble_eq_true rfl) dX8_thin_53 ?_
      refine lv_ldc2 (v := (-1 : Int64)) hx hb hown (hts _ qw_97) dX8_thin_56 ?_
      refine lv_lxor hx hb dX8_thin_59 ?_
      refine lv_land hx hb dX8_thin_60 ?_
      obtain ⟨g12, hm⟩ := gd_out hm
      refine va_last hx hb hK hP hD hS 1 1 rfl rfl g12 dX8_thin_61 (fun H locs hP hD hS => ?_)
      have hP : va_P D vwCl (wdM cJ cI oM oM1 oM2 oM3 oM4 oM5 oM6 oM7 oM8 oM9 oM10 oM11 mw mt mrim mjn mhm mpn mbm mgm (vp_updL mpi v1.toNatClampNeg ((mpi v1.toNatClampNeg) &&& (r10 ^^^ (-1 : Int64)))) mst mam mac mro mbe mhi mmi mgr mtr mle) H := hP
      have hD : va_D A (wdM cJ cI oM oM1 oM2 oM3 oM4 oM5 oM6 oM7 oM8 oM9 oM10 oM11 mw mt mrim mjn mhm mpn mbm mgm (vp_updL mpi v1.toNatClampNeg ((mpi v1.toNatClampNeg) &&& (r10 ^^^ (-1 : Int64)))) mst mam mac mro mbe mhi mmi mgr mtr mle) := hD
      refine lv_iinc (v := (v6 + (1 : Int32))) (lv' := [(6, .int (v6 + (1 : Int32))), (0, .ref oM), (1, .int v1), (2, .int v2), (4, .long v4)]) hx hb dX8_thin_62 hl (k := 4) rfl (by rfl) (by decide) rfl (fun ls hl => ?_)
      refine lv_goto (tgt := 28) hx hb dX8_thin_65 (by decide) ?_
      exact ih _ _ _ hm ls (lv_sub hl [1, 2, 3, 4, 0] rfl) _ _ hP hD hS K0
set_option maxHeartbeats 4000000 in
set_option maxRecDepth 100000 in
theorem wX8_thin_L13 {n : Nat} {v1 : Int32} (hx : p.tables.exec = Jvm.exec) (hb : c.code = cX8_thin) (hml : c.maxLocals = 7) (hown : s.vm.findClass RX8 = some m.cls) (hts : ∀ w ∈ tw, w.before args s = true) (hK : va_K D vwCl [(cI, .int), (cJ, .long)] s) (hA : ∀ q, s.heap.size ≤ q → A q) (hR : 3 ≤ R.frames ∧ 81 ≤ R.locals ∧ cells ≤ R.cells ∧ slots ≤ R.slots) : ∀ (k : Nat) (v2 : Int32) (v3 : Int32) (mpi : Nat → Int64) (x2 : Int32) (x_mpi : Nat → Int64), mX8_thin_L13 n v1 mpn mw mt mhi mst mmi k v2 v3 mpi = some (x2, x_mpi) → ∀ ls : Array Slot, lv_has ls 7 [(0, .ref oM), (1, .int v1), (2, .int v2), (3, .int v3)] → ∀ (H : Heap) (locs : List Loc), va_P D vwCl (wdM cJ cI oM oM1 oM2 oM3 oM4 oM5 oM6 oM7 oM8 oM9 oM10 oM11 mw mt mrim mjn mhm mpn mbm mgm mpi mst mam mac mro mbe mhi mmi mgr mtr mle) H → va_D A (wdM cJ cI oM oM1 oM2 oM3 oM4 oM5 oM6 oM7 oM8 oM9 oM10 oM11 mw mt mrim mjn mhm mpn mbm mgm mpi mst mam mac mro mbe mhi mmi mgr mtr mle) → va_S A s.heap H locs → (∀ ls : Array Slot, lv_has ls 7 [(2, .int x2)] → ∀ (H : Heap) (locs : List Loc), va_P D vwCl (wdM cJ cI oM oM1 oM2 oM3 oM4 oM5 oM6 oM7 oM8 oM9 oM10 oM11 mw mt mrim mjn mhm mpn mbm mgm x_mpi mst mam mac mro mbe mhi mmi mgr mtr mle) H → va_D A (wdM cJ cI oM oM1 oM2 oM3 oM4 oM5 oM6 oM7 oM8 oM9 oM10 oM11 mw mt mrim mjn mhm mpn mbm mgm x_mpi mst mam mac mro mbe mhi mmi mgr mtr mle) → va_S A s.heap H locs → W p l e R s m args below meth c H locs cells slots Q (F0 m 101 ls [])) → W p l e R s m args below meth c H locs cells slots Q (F0 m 13 ls []) := by
  intro k
  induction k with
  | zero => intro v2 v3 mpi x2 x_mpi hm; rw [mX8_thin_L13] at hm; cases hm
  | succ k ih =>
    intro v2 v3 mpi x2 x_mpi hm ls hl H locs hP hD hS K0
    rw [mX8_thin_L13] at hm
    refine lv_iload_n hx hb dX8_thin_13 rfl (lv_at hl 3 rfl) ?_
    refine lv_if_eq (tgt := 101) hx hb dX8_thin_14 (by decide) (fun c4 => ?_) (fun c4 => ?_)
    · rw [if_pos c4] at hm
      have hm := Option.some.inj hm
      have e9 : x2 = v2 := (congrArg (fun q => q.1) hm).symm
      rw [e9] at K0
      have e9 : x_mpi = mpi := (congrArg (fun q => q.2) hm).symm
      rw [e9] at K0
      exact K0 ls (lv_sub hl [2] rfl) _ _ hP hD hS
    · rw [if_neg c4] at hm
      refine lv_aload_n hx hb dX8_thin_17 rfl (lv_at hl 0 rfl) ?_
      refine va_get (D := D) (ci := 8) (v := .ref oM1) (C := RX8) (T := TX8) (N := 19) hx hb hts tnX8 hown hK hP 0 rfl rfl 2 (by decide) (hts _ qw_103) (fun _ h9 => h9) rfl dX8_thin_18 ?_
      refine lv_iload_n hx hb dX8_thin_21 rfl (lv_at hl 1 rfl) ?_
      obtain ⟨g5, hm⟩ := gd_out hm
      refine va_lald hx hb hK hP 1 1 rfl rfl g5 dX8_thin_22 ?_
      refine lv_lstore (lv' := [(4, .long (mpi v1.toNatClampNeg)), (0, .ref oM), (1, .int v1), (2, .int v2), (3, .int v3)]) hx hb dX8_thin_23 hl (by decide) rfl (fun ls hl => ?_)
      refine lv_iconst (v := (0 : Int32)) hx hb dX8_thin_25 (by decide) ?_
      refine lv_istore (lv' := [(6, .int (0 : Int32)), (4, .long (mpi v1.toNatClampNeg)), (0, .ref oM), (1, .int v1), (2, .int v2), (3, .int v3)]) hx hb dX8_thin_26 hl (by decide) rfl (fun ls hl => ?_)
      obtain ⟨y13, h14, hm⟩ := jb_out hm
      refine wX8_thin_L28 hx hb hml hown hts hK hA hR n _ _ _  h14 ls (lv_sub hl [2, 3, 4, 1, 0] rfl) _ _ hP hD hS (fun ls hl H locs hP hD hS => ?_)
      refine lv_aload_n hx hb dX8_thin_68 rfl (lv_at hl 0 rfl) ?_
      refine va_get (D := D) (ci := 8) (v := .ref oM1) (C := RX8) (T := TX8) (N := 19) hx hb hts tnX8 hown hK hP 0 rfl rfl 2 (by decide) (hts _ qw_103) (fun _ h9 => h9) rfl dX8_thin_69 ?_
      refine lv_iload_n hx hb dX8_thin_72 rfl (lv_at hl 1 rfl) ?_
      obtain ⟨g15, hm⟩ := gd_out hm
      refine va_lald hx hb hK hP 1 1 rfl rfl g15 dX8_thin_73 ?_
      refine lv_lload hx hb dX8_thin_74 (lv_at hl 3 rfl) ?_
      refine W.lcmp hx hb dX8_thin_76 ?_
      obtain ⟨j16, hi17, hm⟩ := jl_out hm
      have key18 : ∀ (ls : Array Slot), lv_has ls 7 [(0, .ref oM), (1, .int v1), (2, .int v2)] → W p l e R s m args below meth c H locs cells slots Q (F0 m 85 ls [.int j16]) := by
        intro ls hl
        refine lv_istore_n (lv' := [(3, .int j16), (0, .ref oM), (1, .int v1), (2, .int v2)]) hx hb dX8_thin_85 rfl hl (by decide) rfl (fun ls hl => ?_)
        refine lv_iload_n hx hb dX8_thin_86 rfl (lv_at hl 3 rfl) ?_
        refine lv_iload_n hx hb dX8_thin_87 rfl (lv_at hl 0 rfl) ?_
        obtain ⟨j20, hi21, hm⟩ := jl_out hm
        have key22 : ∀ (ls : Array Slot), lv_has ls 7 [(3, .int j16), (0, .ref oM), (1, .int v1)] → W p l e R s m args below meth c H locs cells slots Q (F0 m 96 ls [.int j20, .int v2]) := by
          intro ls hl
          refine lv_iadd hx hb dX8_thin_96 ?_
          refine lv_istore_n (lv' := [(2, .int (v2 + j20)), (3, .int j16), (0, .ref oM), (1, .int v1)]) hx hb dX8_thin_97 rfl hl (by decide) rfl (fun ls hl => ?_)
          refine lv_goto (tgt := 13) hx hb dX8_thin_98 (by decide) ?_
          exact ih _ _ _ _ _ hm ls (lv_sub hl [2, 3, 0, 1] rfl) _ _ hP hD hS K0
        refine lv_if_eq (tgt := 95) hx hb dX8_thin_88 (by decide) (fun c23 => ?_) (fun c23 => ?_)
        · rw [if_pos c23] at hi21
          refine lv_iconst (v := (0 : Int32)) hx hb dX8_thin_95 (by decide) ?_
          rw [hi21] at key22
          exact key22 ls (lv_sub hl [0, 1, 2] rfl)
        · rw [if_neg c23] at hi21
          refine lv_iconst (v := (1 : Int32)) hx hb dX8_thin_91 (by decide) ?_
          refine lv_goto (tgt := 96) hx hb dX8_thin_92 (by decide) ?_
          rw [hi21] at key22
          exact key22 ls (lv_sub hl [0, 1, 2] rfl)
      refine lv_if_eq (tgt := 84) hx hb dX8_thin_77 (by decide) (fun c19 => ?_) (fun c19 => ?_)
      · have c19 := (lg_cmp_eq (y13 v1.toNatClampNeg) (mpi v1.toNatClampNeg)).mp c19
        rw [if_pos c19] at hi17
        refine lv_iconst (v := (0 : Int32)) hx hb dX8_thin_84 (by decide) ?_
        rw [hi17] at key18
        exact key18 ls (lv_sub hl [0, 1, 2] rfl)
      · have c19 := fun h9 => c19 ((lg_cmp_eq (y13 v1.toNatClampNeg) (mpi v1.toNatClampNeg)).mpr h9)
        rw [if_neg c19] at hi17
        refine lv_iconst (v := (1 : Int32)) hx hb dX8_thin_80 (by decide) ?_
        refine lv_goto (tgt := 85) hx hb dX8_thin_81 (by decide) ?_
        rw [hi17] at key18
        exact key18 ls (lv_sub hl [0, 1, 2] rfl)
set_option maxHeartbeats 4000000 in
set_option maxRecDepth 100000 in
theorem bX8_thin {n : Nat} {a1 : Int32} {r : Int32} {y_mpi : (Nat → Int64)} (hx : p.tables.exec = Jvm.exec) (hb : c.code = cX8_thin) (hml : c.maxLocals = 7) (hown : s.vm.findClass RX8 = some m.cls) (hts : ∀ w ∈ tw, w.before args s = true) (hK : va_K D vwCl [(cI, .int), (cJ, .long)] s) (hA : ∀ q, s.heap.size ≤ q → A q) (hR : 3 ≤ R.frames ∧ 81 ≤ R.locals ∧ cells ≤ R.cells ∧ slots ≤ R.slots) (hm : mX8_thin n mpi mpn mw mt mhi mst mmi a1 = some (r, y_mpi)) (ls : Array Slot) (hl : lv_has ls 7 [(0, .ref oM), (1, .int a1)]) (hP : va_P D vwCl (wdM cJ cI oM oM1 oM2 oM3 oM4 oM5 oM6 oM7 oM8 oM9 oM10 oM11 mw mt mrim mjn mhm mpn mbm mgm mpi mst mam mac mro mbe mhi mmi mgr mtr mle) H) (hD : va_D A (wdM cJ cI oM oM1 oM2 oM3 oM4 oM5 oM6 oM7 oM8 oM9 oM10 oM11 mw mt mrim mjn mhm mpn mbm mgm mpi mst mam mac mro mbe mhi mmi mgr mtr mle)) (hS : va_S A s.heap H locs) (K : ∀ (pc : Nat) (ls : Array Slot) (H : Heap) (locs : List Loc), decode cX8_thin pc = .ok (.ireturn, 1) → va_P D vwCl (wdM cJ cI oM oM1 oM2 oM3 oM4 oM5 oM6 oM7 oM8 oM9 oM10 oM11 mw mt mrim mjn mhm mpn mbm mgm y_mpi mst mam mac mro mbe mhi mmi mgr mtr mle) H → va_D A (wdM cJ cI oM oM1 oM2 oM3 oM4 oM5 oM6 oM7 oM8 oM9 oM10 oM11 mw mt mrim mjn mhm mpn mbm mgm y_mpi mst mam mac mro mbe mhi mmi mgr mtr mle) → va_S A s.heap H locs → W p l e R s m args below meth c H locs cells slots Q (F0 m pc ls [.int r])) : W p l e R s m args below meth c H locs cells slots Q (F0 m 0 ls []) := by
  unfold mX8_thin at hm
  refine lv_iload_n hx hb dX8_thin_0 rfl (lv_at hl 1 rfl) ?_
  refine kX8_isPicture ⟨hx, hb, hml, hown, hts⟩ qw_101 hl.1 ⟨Nat.le_trans (by decide) hR.1, Nat.le_trans (by decide) hR.2.1, hR.2.2⟩ (Nat.le_of_ble_eq_true rfl) dX8_thin_1 ?_
  refine lv_if_ne (tgt := 9) hx hb dX8_thin_4 (by decide) (fun c2 => ?_) (fun c2 => ?_)
  · rw [if_neg c2] at hm
    refine lv_iconst (v := (0 : Int32)) hx hb dX8_thin_9 (by decide) ?_
    refine lv_istore_n (lv' := [(2, .int (0 : Int32)), (0, .ref oM), (1, .int a1)]) hx hb dX8_thin_10 rfl hl (by decide) rfl (fun ls hl => ?_)
    refine lv_iconst (v := (1 : Int32)) hx hb dX8_thin_11 (by decide) ?_
    refine lv_istore_n (lv' := [(3, .int (1 : Int32)), (2, .int (0 : Int32)), (0, .ref oM), (1, .int a1)]) hx hb dX8_thin_12 rfl hl (by decide) rfl (fun ls hl => ?_)
    obtain ⟨y24, y25, h26, hm⟩ := jb_out2 hm
    refine wX8_thin_L13 hx hb hml hown hts hK hA hR n _ _ _ _ _  h26 ls (lv_sub hl [2, 3, 1, 0] rfl) _ _ hP hD hS (fun ls hl H locs hP hD hS => ?_)
    refine lv_iload_n hx hb dX8_thin_101 rfl (lv_at hl 0 rfl) ?_
    have hm := Option.some.inj hm
    have e9 : r = y24 := (congrArg (fun q => q.1) hm).symm
    rw [e9] at K
    have e9 : y_mpi = y25 := (congrArg (fun q => q.2) hm).symm
    rw [e9] at K
    exact K 102 ls _ _ dX8_thin_102 hP hD hS
  · rw [if_pos c2] at hm
    refine lv_iconst (v := (-1 : Int32)) hx hb dX8_thin_7 (by decide) ?_
    have hm := Option.some.inj hm
    have e9 : r = (-1 : Int32) := (congrArg (fun q => q.1) hm).symm
    rw [e9] at K
    have e9 : y_mpi = mpi := (congrArg (fun q => q.2) hm).symm
    rw [e9] at K
    exact K 8 ls _ _ dX8_thin_8 hP hD hS
set_option maxHeartbeats 4000000 in
set_option maxRecDepth 100000 in
theorem tX8_thin (l : Launch) {D : va_G} (sz : Nat) {n : Nat} {a1 : Int32} {r : Int32} {y_mpi : (Nat → Int64)} (hm : mX8_thin n mpi mpn mw mt mhi mst mmi a1 = some (r, y_mpi)) : Met l yX8_thin (.code yX8_thin cX8_thin 7 (some .int) :: tw) ({ frames := 3, cells := 0, slots := 0, locals := 81 } : Room) (wrP D [.ref oM, .int a1] (wdM cJ cI oM oM1 oM2 oM3 oM4 oM5 oM6 oM7 oM8 oM9 oM10 oM11 mw mt mrim mjn mhm mpn mbm mgm mpi mst mam mac mro mbe mhi mmi mgr mtr mle) [(cI, .int), (cJ, .long)] sz) (va_Qi (fun q (_ : Unit) => q = r) (fun (_ : Unit) (t : State) => va_P D vwCl (wdM cJ cI oM oM1 oM2 oM3 oM4 oM5 oM6 oM7 oM8 oM9 oM10 oM11 mw mt mrim mjn mhm mpn mbm mgm y_mpi mst mam mac mro mbe mhi mmi mgr mtr mle) t.heap ∧ va_K D vwCl [(cI, .int), (cJ, .long)] t ∧ va_D (va_A (wdM cJ cI oM oM1 oM2 oM3 oM4 oM5 oM6 oM7 oM8 oM9 oM10 oM11 mw mt mrim mjn mhm mpn mbm mgm mpi mst mam mac mro mbe mhi mmi mgr mtr mle) sz) (wdM cJ cI oM oM1 oM2 oM3 oM4 oM5 oM6 oM7 oM8 oM9 oM10 oM11 mw mt mrim mjn mhm mpn mbm mgm y_mpi mst mam mac mro mbe mhi mmi mgr mtr mle)) (va_A (wdM cJ cI oM oM1 oM2 oM3 oM4 oM5 oM6 oM7 oM8 oM9 oM10 oM11 mw mt mrim mjn mhm mpn mbm mgm mpi mst mam mac mro mbe mhi mmi mgr mtr mle) sz)) 0 0 (va_A (wdM cJ cI oM oM1 oM2 oM3 oM4 oM5 oM6 oM7 oM8 oM9 oM10 oM11 mw mt mrim mjn mhm mpn mbm mgm mpi mst mam mac mro mbe mhi mmi mgr mtr mle) sz) := by
  refine Met.ofW (cc := cX8_thin) (maxL := 7) (ret := (some .int)) (by decide) rfl ?_
  intro p e s m args below meth c s₁ B hml hv
  obtain ⟨rfl, hsz, hP, hK, hD0⟩ := hv
  have hx := B.exec
  have hb := B.bytes
  have hr := B.returns
  have hts : ∀ w ∈ tw, w.before _ s = true := fun w h => atoms_spec (ws := .code yX8_thin cX8_thin 7 (some .int) :: tw) B.pre w (List.mem_cons_of_mem _ h)
  have hown : s.vm.findClass RX8 = some m.cls := findClass_of_methodNamed B.named
  have hlocks := B.notSynchronized
  subst hsz
  have hD := hD0.self (sz := s.heap.size)
  have hl := lv_entry ([.ref oM, .int a1]) (n := 7) (Nat.le_of_ble_eq_true rfl)
  rw [lg_entry_eq]
  generalize (lg_sl ([.ref oM, .int a1]) ++ List.replicate (7 - (lg_sl ([.ref oM, .int a1])).length) Slot.unset).toArray = ls at hl ⊢
  refine bX8_thin hx hb hml hown hts hK (fun q h => Or.inr h) ⟨Nat.le_of_ble_eq_true rfl, Nat.le_of_ble_eq_true rfl, Nat.zero_le _, Nat.zero_le _⟩ hm ls hl hP hD va_S.rf (fun pc ls H locs hd hP hD hS => ?_)
  exact W.iret hx hb hr (fun t ht hW => ⟨⟨r, (), rfl, rfl, by rw [ht]; exact hP, va_K.moved hW.alike hK, hD⟩, hS.F ht⟩) hS.2.2 hd
set_option maxHeartbeats 4000000 in
set_option maxRecDepth 100000 in
theorem kX8_thin {own : String} {cc : ByteArray} {nL idx pc : Nat} {ls : Array Slot} {rest : List Value} {ws wr : va_W} {n : Nat} {a1 : Int32} {r : Int32} {y_mpi : (Nat → Int64)} (fx : CallFix p m c cc nL s args tw own) (hq : Cond.methodLink own idx yX8_thin ∈ tw) (isC isR : List Nat) (hC : isC.map (fun i => ws[i]?) = ((wdM cJ cI oM oM1 oM2 oM3 oM4 oM5 oM6 oM7 oM8 oM9 oM10 oM11 mw mt mrim mjn mhm mpn mbm mgm mpi mst mam mac mro mbe mhi mmi mgr mtr mle) : va_W).map some) (hRr : isR.map (fun i => ws[i]?) = wr.map some) (hnC : va_nd isC = true) (hn : va_nd isR = true) (hdis : ∀ i ∈ isR, i ∉ isC) (hK : va_K D vwCl [(cI, .int), (cJ, .long)] s) (hm : mX8_thin n mpi mpn mw mt mhi mst mmi a1 = some (r, y_mpi)) (hsz : ls.size = nL) (hR : 4 ≤ R.frames ∧ 107 ≤ R.locals ∧ cells ≤ R.cells ∧ slots ≤ R.slots) (hst : (rest.map fun v => v.category).sum ≤ 8) (hd : decode cc pc = .ok (.invokevirtual idx, 3)) (hP : va_P D vwCl ws H) (hD : va_D A ws) (hS : va_S A s.heap H locs) (hA : ∀ q, s.heap.size ≤ q → A q) (kk : ∀ (H : Heap) (locs : List Loc), va_P D vwCl (wr ++ (wdM cJ cI oM oM1 oM2 oM3 oM4 oM5 oM6 oM7 oM8 oM9 oM10 oM11 mw mt mrim mjn mhm mpn mbm mgm y_mpi mst mam mac mro mbe mhi mmi mgr mtr mle)) H → va_D A (wr ++ (wdM cJ cI oM oM1 oM2 oM3 oM4 oM5 oM6 oM7 oM8 oM9 oM10 oM11 mw mt mrim mjn mhm mpn mbm mgm y_mpi mst mam mac mro mbe mhi mmi mgr mtr mle)) → va_S A s.heap H locs → W p l e R s m args below meth c H locs cells slots Q (F0 m (pc + 3) ls (.int r :: rest))) : W p l e R s m args below meth c H locs cells slots Q (F0 m pc ls (.int a1 :: .ref oM :: rest)) := by
  have hPc := va_P.subM hP isC hC
  have hDc := hD.sub isC hnC hC
  have hFc := va_free (wc := (wdM cJ cI oM oM1 oM2 oM3 oM4 oM5 oM6 oM7 oM8 oM9 oM10 oM11 mw mt mrim mjn mhm mpn mbm mgm mpi mst mam mac mro mbe mhi mmi mgr mtr mle)) hD hS hA isC hC
  refine va_calli (va_runV (As := [.int a1]) (rest := rest) fx (tX8_thin l H.size hm) (cwV 1 fx.2.2.2.2 (tw_V hq qw_493 qw_494 qw_53 qw_495) rfl rfl rfl (by decide +kernel) ⟨hR.1, hR.2.1⟩) ⟨wrP_bl, va_recv hK hPc (ci := 8) (q0 := 0) rfl rfl, wrP_ok hPc hK hDc⟩ rfl rfl hsz rfl (lv_room hst) hd ⟨hR.2.2.1, hR.2.2.2⟩) hS (fun q _ h => hFc q h) hFc (fun r9 u t H1 locs ht hvm hw hB hz1 hk1 hS => ?_)
  obtain ⟨hP1, hK1, hD1⟩ := hB
  rw [ht] at hP1
  rw [hw]
  obtain ⟨hP2, hD2⟩ := va_join (wr := wr) (w1 := (wdM cJ cI oM oM1 oM2 oM3 oM4 oM5 oM6 oM7 oM8 oM9 oM10 oM11 mw mt mrim mjn mhm mpn mbm mgm y_mpi mst mam mac mro mbe mhi mmi mgr mtr mle)) hP hD isC isR hC hRr hn hdis hk1 hFc hP1 hD1
  exact kk H1 locs hP2 hD2 hS
-- X8_holesOf
def mX8_holesOf_L19 (n : Nat) (mw : Int32) (mt : Int32) (mjn : Int32) : Nat → (Int64) → (Int64) → (Int32) → Option ((Int64) × (Int32))
  | 0, _, _, _ => none
  | k + 1, v3, v5, mhm => (if v3 = (0 : Int64) then some ((v5, mhm)) else jb (mX8_firstOf n v3) (fun (r4 : Int32) => jb (mX8_pieceOf n mw mt v3 r4 ((12 : Int32) - mjn)) (fun (r6 : Int64) => jb (mX8_edgeCells n mw mt) (fun (r8 : Int64) => jl (if (r6 &&& r8) = (0 : Int64) then (1 : Int32) else (0 : Int32)) (fun j10 => jl (if j10 = 0 then (0 : Int64) else r6) (fun j14 => jl (if j10 = 0 then (0 : Int32) else (1 : Int32)) (fun j18 => mX8_holesOf_L19 n mw mt mjn k (v3 &&& (r6 ^^^ (-1 : Int64))) (v5 ||| j14) (mhm + j18))))))))
def mX8_holesOf (n : Nat) (mw : Int32) (mt : Int32) (mjn : Int32) (a1 : Int64) : Option (Int64 × (Int32)) :=
  jb2 (mX8_holesOf_L19 n mw mt mjn n ((mX8_all mw mt) &&& (a1 ^^^ (-1 : Int64))) (0 : Int64) (0 : Int32)) (fun (y22 : Int64) (y23 : Int32) => (some (y22, y23)))
theorem dX8_holesOf_0 : decode cX8_holesOf 0 = .ok (.aload_n 0, 1) := by decide +kernel
theorem dX8_holesOf_1 : decode cX8_holesOf 1 = .ok (.invokevirtual 109, 3) := by decide +kernel
theorem dX8_holesOf_4 : decode cX8_holesOf 4 = .ok (.lload_n 1, 1) := by decide +kernel
theorem dX8_holesOf_5 : decode cX8_holesOf 5 = .ok (.ldc2_w 82, 3) := by decide +kernel
theorem dX8_holesOf_8 : decode cX8_holesOf 8 = .ok (.lxor, 1) := by decide +kernel
theorem dX8_holesOf_9 : decode cX8_holesOf 9 = .ok (.land, 1) := by decide +kernel
theorem dX8_holesOf_10 : decode cX8_holesOf 10 = .ok (.lstore_n 3, 1) := by decide +kernel
theorem dX8_holesOf_11 : decode cX8_holesOf 11 = .ok (.lconst 0, 1) := by decide +kernel
theorem dX8_holesOf_12 : decode cX8_holesOf 12 = .ok (.lstore 5, 2) := by decide +kernel
theorem dX8_holesOf_14 : decode cX8_holesOf 14 = .ok (.aload_n 0, 1) := by decide +kernel
theorem dX8_holesOf_15 : decode cX8_holesOf 15 = .ok (.iconst 0, 1) := by decide +kernel
theorem dX8_holesOf_16 : decode cX8_holesOf 16 = .ok (.putfield 136, 3) := by decide +kernel
theorem dX8_holesOf_19 : decode cX8_holesOf 19 = .ok (.lload_n 3, 1) := by decide +kernel
theorem dX8_holesOf_20 : decode cX8_holesOf 20 = .ok (.lconst 0, 1) := by decide +kernel
theorem dX8_holesOf_21 : decode cX8_holesOf 21 = .ok (.lcmp, 1) := by decide +kernel
theorem dX8_holesOf_22 : decode cX8_holesOf 22 = .ok (.ifCond .eq 87, 3) := by decide +kernel
theorem dX8_holesOf_25 : decode cX8_holesOf 25 = .ok (.aload_n 0, 1) := by decide +kernel
theorem dX8_holesOf_26 : decode cX8_holesOf 26 = .ok (.lload_n 3, 1) := by decide +kernel
theorem dX8_holesOf_27 : decode cX8_holesOf 27 = .ok (.lload_n 3, 1) := by decide +kernel
theorem dX8_holesOf_28 : decode cX8_holesOf 28 = .ok (.invokestatic 139, 3) := by decide +kernel
theorem dX8_holesOf_31 : decode cX8_holesOf 31 = .ok (.bipush 12, 2) := by decide +kernel
theorem dX8_holesOf_33 : decode cX8_holesOf 33 = .ok (.aload_n 0, 1) := by decide +kernel
theorem dX8_holesOf_34 : decode cX8_holesOf 34 = .ok (.getfield 27, 3) := by decide +kernel
theorem dX8_holesOf_37 : decode cX8_holesOf 37 = .ok (.isub, 1) := by decide +kernel
theorem dX8_holesOf_38 : decode cX8_holesOf 38 = .ok (.invokevirtual 142, 3) := by decide +kernel
theorem dX8_holesOf_41 : decode cX8_holesOf 41 = .ok (.lstore 7, 2) := by decide +kernel
theorem dX8_holesOf_43 : decode cX8_holesOf 43 = .ok (.lload 7, 2) := by decide +kernel
theorem dX8_holesOf_45 : decode cX8_holesOf 45 = .ok (.aload_n 0, 1) := by decide +kernel
theorem dX8_holesOf_46 : decode cX8_holesOf 46 = .ok (.invokevirtual 146, 3) := by decide +kernel
theorem dX8_holesOf_49 : decode cX8_holesOf 49 = .ok (.land, 1) := by decide +kernel
theorem dX8_holesOf_50 : decode cX8_holesOf 50 = .ok (.lconst 0, 1) := by decide +kernel
theorem dX8_holesOf_51 : decode cX8_holesOf 51 = .ok (.lcmp, 1) := by decide +kernel
theorem dX8_holesOf_52 : decode cX8_holesOf 52 = .ok (.ifCond .ne 7, 3) := by decide +kernel
theorem dX8_holesOf_55 : decode cX8_holesOf 55 = .ok (.iconst 1, 1) := by decide +kernel
theorem dX8_holesOf_56 : decode cX8_holesOf 56 = .ok (.goto 4, 3) := by decide +kernel
theorem dX8_holesOf_59 : decode cX8_holesOf 59 = .ok (.iconst 0, 1) := by decide +kernel
theorem dX8_holesOf_60 : decode cX8_holesOf 60 = .ok (.istore 9, 2) := by decide +kernel
theorem dX8_holesOf_62 : decode cX8_holesOf 62 = .ok (.lload 5, 2) := by decide +kernel
theorem dX8_holesOf_64 : decode cX8_holesOf 64 = .ok (.iload 9, 2) := by decide +kernel
theorem dX8_holesOf_66 : decode cX8_holesOf 66 = .ok (.ifCond .eq 8, 3) := by decide +kernel
theorem dX8_holesOf_69 : decode cX8_holesOf 69 = .ok (.lload 7, 2) := by decide +kernel
theorem dX8_holesOf_71 : decode cX8_holesOf 71 = .ok (.goto 4, 3) := by decide +kernel
theorem dX8_holesOf_74 : decode cX8_holesOf 74 = .ok (.lconst 0, 1) := by decide +kernel
theorem dX8_holesOf_75 : decode cX8_holesOf 75 = .ok (.lor, 1) := by decide +kernel
theorem dX8_holesOf_76 : decode cX8_holesOf 76 = .ok (.lstore 5, 2) := by decide +kernel
theorem dX8_holesOf_78 : decode cX8_holesOf 78 = .ok (.aload_n 0, 1) := by decide +kernel
theorem dX8_holesOf_79 : decode cX8_holesOf 79 = .ok (.dup, 1) := by decide +kernel
theorem dX8_holesOf_80 : decode cX8_holesOf 80 = .ok (.getfield 136, 3) := by decide +kernel
theorem dX8_holesOf_83 : decode cX8_holesOf 83 = .ok (.iload 9, 2) := by decide +kernel
theorem dX8_holesOf_85 : decode cX8_holesOf 85 = .ok (.ifCond .eq 7, 3) := by decide +kernel
theorem dX8_holesOf_88 : decode cX8_holesOf 88 = .ok (.iconst 1, 1) := by decide +kernel
theorem dX8_holesOf_89 : decode cX8_holesOf 89 = .ok (.goto 4, 3) := by decide +kernel
theorem dX8_holesOf_92 : decode cX8_holesOf 92 = .ok (.iconst 0, 1) := by decide +kernel
theorem dX8_holesOf_93 : decode cX8_holesOf 93 = .ok (.iadd, 1) := by decide +kernel
theorem dX8_holesOf_94 : decode cX8_holesOf 94 = .ok (.putfield 136, 3) := by decide +kernel
theorem dX8_holesOf_97 : decode cX8_holesOf 97 = .ok (.lload_n 3, 1) := by decide +kernel
theorem dX8_holesOf_98 : decode cX8_holesOf 98 = .ok (.lload 7, 2) := by decide +kernel
theorem dX8_holesOf_100 : decode cX8_holesOf 100 = .ok (.ldc2_w 82, 3) := by decide +kernel
theorem dX8_holesOf_103 : decode cX8_holesOf 103 = .ok (.lxor, 1) := by decide +kernel
theorem dX8_holesOf_104 : decode cX8_holesOf 104 = .ok (.land, 1) := by decide +kernel
theorem dX8_holesOf_105 : decode cX8_holesOf 105 = .ok (.lstore_n 3, 1) := by decide +kernel
theorem dX8_holesOf_106 : decode cX8_holesOf 106 = .ok (.goto (-87), 3) := by decide +kernel
theorem dX8_holesOf_109 : decode cX8_holesOf 109 = .ok (.lload 5, 2) := by decide +kernel
theorem dX8_holesOf_111 : decode cX8_holesOf 111 = .ok (.lreturn, 1) := by decide +kernel
set_option maxHeartbeats 4000000 in
set_option maxRecDepth 100000 in
theorem wX8_holesOf_L19 {n : Nat} (hx : p.tables.exec = Jvm.exec) (hb : c.code = cX8_holesOf) (hml : c.maxLocals = 10) (hown : s.vm.findClass RX8 = some m.cls) (hts : ∀ w ∈ tw, w.before args s = true) (hK : va_K D vwCl [(cI, .int), (cJ, .long)] s) (hA : ∀ q, s.heap.size ≤ q → A q) (hR : 4 ≤ R.frames ∧ 106 ≤ R.locals ∧ cells ≤ R.cells ∧ slots ≤ R.slots) : ∀ (k : Nat) (v3 : Int64) (v5 : Int64) (mhm : Int32) (x5 : Int64) (x_mhm : Int32), mX8_holesOf_L19 n mw mt mjn k v3 v5 mhm = some (x5, x_mhm) → ∀ ls : Array Slot, lv_has ls 10 [(0, .ref oM), (3, .long v3), (5, .long v5)] → ∀ (H : Heap) (locs : List Loc), va_P D vwCl (wdM cJ cI oM oM1 oM2 oM3 oM4 oM5 oM6 oM7 oM8 oM9 oM10 oM11 mw mt mrim mjn mhm mpn mbm mgm mpi mst mam mac mro mbe mhi mmi mgr mtr mle) H → va_D A (wdM cJ cI oM oM1 oM2 oM3 oM4 oM5 oM6 oM7 oM8 oM9 oM10 oM11 mw mt mrim mjn mhm mpn mbm mgm mpi mst mam mac mro mbe mhi mmi mgr mtr mle) → va_S A s.heap H locs → (∀ ls : Array Slot, lv_has ls 10 [(5, .long x5)] → ∀ (H : Heap) (locs : List Loc), va_P D vwCl (wdM cJ cI oM oM1 oM2 oM3 oM4 oM5 oM6 oM7 oM8 oM9 oM10 oM11 mw mt mrim mjn x_mhm mpn mbm mgm mpi mst mam mac mro mbe mhi mmi mgr mtr mle) H → va_D A (wdM cJ cI oM oM1 oM2 oM3 oM4 oM5 oM6 oM7 oM8 oM9 oM10 oM11 mw mt mrim mjn x_mhm mpn mbm mgm mpi mst mam mac mro mbe mhi mmi mgr mtr mle) → va_S A s.heap H locs → W p l e R s m args below meth c H locs cells slots Q (F0 m 109 ls [])) → W p l e R s m args below meth c H locs cells slots Q (F0 m 19 ls []) := by
  intro k
  induction k with
  | zero => intro v3 v5 mhm x5 x_mhm hm; rw [mX8_holesOf_L19] at hm; cases hm
  | succ k ih =>
    intro v3 v5 mhm x5 x_mhm hm ls hl H locs hP hD hS K0
    rw [mX8_holesOf_L19] at hm
    refine lv_lload_n hx hb dX8_holesOf_19 rfl (lv_at hl 1 rfl) ?_
    refine lv_lconst (v := (0 : Int64)) hx hb dX8_holesOf_20 (by decide) ?_
    refine W.lcmp hx hb dX8_holesOf_21 ?_
    refine lv_if_eq (tgt := 109) hx hb dX8_holesOf_22 (by decide) (fun c3 => ?_) (fun c3 => ?_)
    · have c3 := (lg_cmp_eq v3 (0 : Int64)).mp c3
      rw [if_pos c3] at hm
      have hm := Option.some.inj hm
      have e9 : x5 = v5 := (congrArg (fun q => q.1) hm).symm
      rw [e9] at K0
      have e9 : x_mhm = mhm := (congrArg (fun q => q.2) hm).symm
      rw [e9] at K0
      exact K0 ls (lv_sub hl [2] rfl) _ _ hP hD hS
    · have c3 := fun h9 => c3 ((lg_cmp_eq v3 (0 : Int64)).mpr h9)
      rw [if_neg c3] at hm
      refine lv_aload_n hx hb dX8_holesOf_25 rfl (lv_at hl 0 rfl) ?_
      refine lv_lload_n hx hb dX8_holesOf_26 rfl (lv_at hl 1 rfl) ?_
      refine lv_lload_n hx hb dX8_holesOf_27 rfl (lv_at hl 1 rfl) ?_
      obtain ⟨r4, h5, hm⟩ := jb_out hm
      refine kX8_firstOf ⟨hx, hb, hml, hown, hts⟩ qw_139 h5 hl.1 ⟨Nat.le_trans (by decide) hR.1, Nat.le_trans (by decide) hR.2.1, hR.2.2⟩ (Nat.le_of_ble_eq_true rfl) dX8_holesOf_28 ?_
      refine lv_bipush (v := (12 : Int32)) hx hb dX8_holesOf_31 (by decide) ?_
      refine lv_aload_n hx hb dX8_holesOf_33 rfl (lv_at hl 0 rfl) ?_
      refine va_get (D := D) (ci := 8) (v := .int mjn) (C := RX8) (T := TX8) (N := 19) hx hb hts tnX8 hown hK hP 0 rfl rfl 5 (by decide) (hts _ qw_140) (fun _ h9 => h9) rfl dX8_holesOf_34 ?_
      refine lv_isub hx hb dX8_holesOf_37 ?_
      obtain ⟨r6, h7, hm⟩ := jb_out hm
      refine kX8_pieceOf ⟨hx, hb, hml, hown, hts⟩ qw_141 hP hK h7 hl.1 ⟨Nat.le_trans (by decide) hR.1, Nat.le_trans (by decide) hR.2.1, hR.2.2⟩ (Nat.le_of_ble_eq_true rfl) dX8_holesOf_38 ?_
      refine lv_lstore (lv' := [(7, .long r6), (0, .ref oM), (3, .long v3), (5, .long v5)]) hx hb dX8_holesOf_41 hl (by decide) rfl (fun ls hl => ?_)
      refine lv_lload hx hb dX8_holesOf_43 (lv_at hl 0 rfl) ?_
      refine lv_aload_n hx hb dX8_holesOf_45 rfl (lv_at hl 1 rfl) ?_
      obtain ⟨r8, h9, hm⟩ := jb_out hm
      refine kX8_edgeCells ⟨hx, hb, hml, hown, hts⟩ qw_497 hP hK h9 hl.1 ⟨Nat.le_trans (by decide) hR.1, Nat.le_trans (by decide) hR.2.1, hR.2.2⟩ (Nat.le_of_ble_eq_true rfl) dX8_holesOf_46 ?_
      refine lv_land hx hb dX8_holesOf_49 ?_
      refine lv_lconst (v := (0 : Int64)) hx hb dX8_holesOf_50 (by decide) ?_
      refine W.lcmp hx hb dX8_holesOf_51 ?_
      obtain ⟨j10, hi11, hm⟩ := jl_out hm
      have key12 : ∀ (ls : Array Slot), lv_has ls 10 [(7, .long r6), (0, .ref oM), (3, .long v3), (5, .long v5)] → W p l e R s m args below meth c H locs cells slots Q (F0 m 60 ls [.int j10]) := by
        intro ls hl
        refine lv_istore (lv' := [(9, .int j10), (7, .long r6), (0, .ref oM), (3, .long v3), (5, .long v5)]) hx hb dX8_holesOf_60 hl (by decide) rfl (fun ls hl => ?_)
        refine lv_lload hx hb dX8_holesOf_62 (lv_at hl 4 rfl) ?_
        refine lv_iload hx hb dX8_holesOf_64 (lv_at hl 0 rfl) ?_
        obtain ⟨j14, hi15, hm⟩ := jl_out hm
        have key16 : ∀ (ls : Array Slot), lv_has ls 10 [(9, .int j10), (7, .long r6), (0, .ref oM), (3, .long v3)] → W p l e R s m args below meth c H locs cells slots Q (F0 m 75 ls [.long j14, .long v5]) := by
          intro ls hl
          refine lv_lor hx hb dX8_holesOf_75 ?_
          refine lv_lstore (lv' := [(5, .long (v5 ||| j14)), (9, .int j10), (7, .long r6), (0, .ref oM), (3, .long v3)]) hx hb dX8_holesOf_76 hl (by decide) rfl (fun ls hl => ?_)
          refine lv_aload_n hx hb dX8_holesOf_78 rfl (lv_at hl 3 rfl) ?_
          refine lv_dup hx hb dX8_holesOf_79 rfl ?_
          refine va_get (D := D) (ci := 8) (v := .int mhm) (C := RX8) (T := TX8) (N := 19) hx hb hts tnX8 hown hK hP 0 rfl rfl 10 (by decide) (hts _ qw_496) (fun _ h9 => h9) rfl dX8_holesOf_80 ?_
          refine lv_iload hx hb dX8_holesOf_83 (lv_at hl 1 rfl) ?_
          obtain ⟨j18, hi19, hm⟩ := jl_out hm
          have key20 : ∀ (ls : Array Slot), lv_has ls 10 [(5, .long (v5 ||| j14)), (7, .long r6), (0, .ref oM), (3, .long v3)] → W p l e R s m args below meth c H locs cells slots Q (F0 m 93 ls [.int j18, .int mhm, .ref oM]) := by
            intro ls hl
            refine lv_iadd hx hb dX8_holesOf_93 ?_
            refine va_put (D := D) (ci := 8) (v := .int (mhm + j18)) (ty := .int) (C := RX8) (T := TX8) (N := 19) hx hb hts tnX8 tyX8 tyX8_ok nmX8 hown hK hP hD hS 0 rfl rfl 10 (by decide) (hts _ qw_496) (fun _ h9 => h9) rfl (by decide +kernel) rfl rfl (Nat.le_of_ble_eq_true rfl) dX8_holesOf_94 (fun H locs hP hD hS => ?_)
            have hP : va_P D vwCl (wdM cJ cI oM oM1 oM2 oM3 oM4 oM5 oM6 oM7 oM8 oM9 oM10 oM11 mw mt mrim mjn (mhm + j18) mpn mbm mgm mpi mst mam mac mro mbe mhi mmi mgr mtr mle) H := hP
            have hD : va_D A (wdM cJ cI oM oM1 oM2 oM3 oM4 oM5 oM6 oM7 oM8 oM9 oM10 oM11 mw mt mrim mjn (mhm + j18) mpn mbm mgm mpi mst mam mac mro mbe mhi mmi mgr mtr mle) := hD
            refine lv_lload_n hx hb dX8_holesOf_97 rfl (lv_at hl 3 rfl) ?_
            refine lv_lload hx hb dX8_holesOf_98 (lv_at hl 1 rfl) ?_
            refine lv_ldc2 (v := (-1 : Int64)) hx hb hown (hts _ qw_97) dX8_holesOf_100 ?_
            refine lv_lxor hx hb dX8_holesOf_103 ?_
            refine lv_land hx hb dX8_holesOf_104 ?_
            refine lv_lstore_n (lv' := [(3, .long (v3 &&& (r6 ^^^ (-1 : Int64)))), (5, .long (v5 ||| j14)), (7, .long r6), (0, .ref oM)]) hx hb dX8_holesOf_105 rfl hl (by decide) rfl (fun ls hl => ?_)
            refine lv_goto (tgt := 19) hx hb dX8_holesOf_106 (by decide) ?_
            exact ih _ _ _ _ _ hm ls (lv_sub hl [3, 0, 1] rfl) _ _ hP hD hS K0
          refine lv_if_eq (tgt := 92) hx hb dX8_holesOf_85 (by decide) (fun c21 => ?_) (fun c21 => ?_)
          · rw [if_pos c21] at hi19
            refine lv_iconst (v := (0 : Int32)) hx hb dX8_holesOf_92 (by decide) ?_
            rw [hi19] at key20
            exact key20 ls (lv_sub hl [0, 2, 3, 4] rfl)
          · rw [if_neg c21] at hi19
            refine lv_iconst (v := (1 : Int32)) hx hb dX8_holesOf_88 (by decide) ?_
            refine lv_goto (tgt := 93) hx hb dX8_holesOf_89 (by decide) ?_
            rw [hi19] at key20
            exact key20 ls (lv_sub hl [0, 2, 3, 4] rfl)
        refine lv_if_eq (tgt := 74) hx hb dX8_holesOf_66 (by decide) (fun c17 => ?_) (fun c17 => ?_)
        · rw [if_pos c17] at hi15
          refine lv_lconst (v := (0 : Int64)) hx hb dX8_holesOf_74 (by decide) ?_
          rw [hi15] at key16
          exact key16 ls (lv_sub hl [0, 1, 2, 3] rfl)
        · rw [if_neg c17] at hi15
          refine lv_lload hx hb dX8_holesOf_69 (lv_at hl 1 rfl) ?_
          refine lv_goto (tgt := 75) hx hb dX8_holesOf_71 (by decide) ?_
          rw [hi15] at key16
          exact key16 ls (lv_sub hl [0, 1, 2, 3] rfl)
      refine lv_if_ne (tgt := 59) hx hb dX8_holesOf_52 (by decide) (fun c13 => ?_) (fun c13 => ?_)
      · have c13 := fun h9 => c13 ((lg_cmp_eq (r6 &&& r8) (0 : Int64)).mpr h9)
        rw [if_neg c13] at hi11
        refine lv_iconst (v := (0 : Int32)) hx hb dX8_holesOf_59 (by decide) ?_
        rw [hi11] at key12
        exact key12 ls (lv_sub hl [0, 1, 2, 3] rfl)
      · have c13 := (lg_cmp_eq (r6 &&& r8) (0 : Int64)).mp c13
        rw [if_pos c13] at hi11
        refine lv_iconst (v := (1 : Int32)) hx hb dX8_holesOf_55 (by decide) ?_
        refine lv_goto (tgt := 60) hx hb dX8_holesOf_56 (by decide) ?_
        rw [hi11] at key12
        exact key12 ls (lv_sub hl [0, 1, 2, 3] rfl)
set_option maxHeartbeats 4000000 in
set_option maxRecDepth 100000 in
theorem bX8_holesOf {n : Nat} {a1 : Int64} {r : Int64} {y_mhm : (Int32)} (hx : p.tables.exec = Jvm.exec) (hb : c.code = cX8_holesOf) (hml : c.maxLocals = 10) (hown : s.vm.findClass RX8 = some m.cls) (hts : ∀ w ∈ tw, w.before args s = true) (hK : va_K D vwCl [(cI, .int), (cJ, .long)] s) (hA : ∀ q, s.heap.size ≤ q → A q) (hR : 4 ≤ R.frames ∧ 106 ≤ R.locals ∧ cells ≤ R.cells ∧ slots ≤ R.slots) (hm : mX8_holesOf n mw mt mjn a1 = some (r, y_mhm)) (ls : Array Slot) (hl : lv_has ls 10 [(0, .ref oM), (1, .long a1)]) (hP : va_P D vwCl (wdM cJ cI oM oM1 oM2 oM3 oM4 oM5 oM6 oM7 oM8 oM9 oM10 oM11 mw mt mrim mjn mhm mpn mbm mgm mpi mst mam mac mro mbe mhi mmi mgr mtr mle) H) (hD : va_D A (wdM cJ cI oM oM1 oM2 oM3 oM4 oM5 oM6 oM7 oM8 oM9 oM10 oM11 mw mt mrim mjn mhm mpn mbm mgm mpi mst mam mac mro mbe mhi mmi mgr mtr mle)) (hS : va_S A s.heap H locs) (K : ∀ (pc : Nat) (ls : Array Slot) (H : Heap) (locs : List Loc), decode cX8_holesOf pc = .ok (.lreturn, 1) → va_P D vwCl (wdM cJ cI oM oM1 oM2 oM3 oM4 oM5 oM6 oM7 oM8 oM9 oM10 oM11 mw mt mrim mjn y_mhm mpn mbm mgm mpi mst mam mac mro mbe mhi mmi mgr mtr mle) H → va_D A (wdM cJ cI oM oM1 oM2 oM3 oM4 oM5 oM6 oM7 oM8 oM9 oM10 oM11 mw mt mrim mjn y_mhm mpn mbm mgm mpi mst mam mac mro mbe mhi mmi mgr mtr mle) → va_S A s.heap H locs → W p l e R s m args below meth c H locs cells slots Q (F0 m pc ls [.long r])) : W p l e R s m args below meth c H locs cells slots Q (F0 m 0 ls []) := by
  unfold mX8_holesOf at hm
  refine lv_aload_n hx hb dX8_holesOf_0 rfl (lv_at hl 0 rfl) ?_
  refine kX8_all ⟨hx, hb, hml, hown, hts⟩ qw_96 hP hK hl.1 ⟨Nat.le_trans (by decide) hR.1, Nat.le_trans (by decide) hR.2.1, hR.2.2⟩ (Nat.le_of_ble_eq_true rfl) dX8_holesOf_1 ?_
  refine lv_lload_n hx hb dX8_holesOf_4 rfl (lv_at hl 1 rfl) ?_
  refine lv_ldc2 (v := (-1 : Int64)) hx hb hown (hts _ qw_97) dX8_holesOf_5 ?_
  refine lv_lxor hx hb dX8_holesOf_8 ?_
  refine lv_land hx hb dX8_holesOf_9 ?_
  refine lv_lstore_n (lv' := [(3, .long ((mX8_all mw mt) &&& (a1 ^^^ (-1 : Int64)))), (0, .ref oM), (1, .long a1)]) hx hb dX8_holesOf_10 rfl hl (by decide) rfl (fun ls hl => ?_)
  refine lv_lconst (v := (0 : Int64)) hx hb dX8_holesOf_11 (by decide) ?_
  refine lv_lstore (lv' := [(5, .long (0 : Int64)), (3, .long ((mX8_all mw mt) &&& (a1 ^^^ (-1 : Int64)))), (0, .ref oM), (1, .long a1)]) hx hb dX8_holesOf_12 hl (by decide) rfl (fun ls hl => ?_)
  refine lv_aload_n hx hb dX8_holesOf_14 rfl (lv_at hl 2 rfl) ?_
  refine lv_iconst (v := (0 : Int32)) hx hb dX8_holesOf_15 (by decide) ?_
  refine va_put (D := D) (ci := 8) (v := .int (0 : Int32)) (ty := .int) (C := RX8) (T := TX8) (N := 19) hx hb hts tnX8 tyX8 tyX8_ok nmX8 hown hK hP hD hS 0 rfl rfl 10 (by decide) (hts _ qw_496) (fun _ h9 => h9) rfl (by decide +kernel) rfl rfl (Nat.le_of_ble_eq_true rfl) dX8_holesOf_16 (fun H locs hP hD hS => ?_)
  have hP : va_P D vwCl (wdM cJ cI oM oM1 oM2 oM3 oM4 oM5 oM6 oM7 oM8 oM9 oM10 oM11 mw mt mrim mjn (0 : Int32) mpn mbm mgm mpi mst mam mac mro mbe mhi mmi mgr mtr mle) H := hP
  have hD : va_D A (wdM cJ cI oM oM1 oM2 oM3 oM4 oM5 oM6 oM7 oM8 oM9 oM10 oM11 mw mt mrim mjn (0 : Int32) mpn mbm mgm mpi mst mam mac mro mbe mhi mmi mgr mtr mle) := hD
  obtain ⟨y22, y23, h24, hm⟩ := jb_out2 hm
  refine wX8_holesOf_L19 hx hb hml hown hts hK hA hR n _ _ _ _ _  h24 ls (lv_sub hl [2, 1, 0] rfl) _ _ hP hD hS (fun ls hl H locs hP hD hS => ?_)
  refine lv_lload hx hb dX8_holesOf_109 (lv_at hl 0 rfl) ?_
  have hm := Option.some.inj hm
  have e9 : r = y22 := (congrArg (fun q => q.1) hm).symm
  rw [e9] at K
  have e9 : y_mhm = y23 := (congrArg (fun q => q.2) hm).symm
  rw [e9] at K
  exact K 111 ls _ _ dX8_holesOf_111 hP hD hS
set_option maxHeartbeats 4000000 in
set_option maxRecDepth 100000 in
theorem tX8_holesOf (l : Launch) {D : va_G} (sz : Nat) {n : Nat} {a1 : Int64} {r : Int64} {y_mhm : (Int32)} (hm : mX8_holesOf n mw mt mjn a1 = some (r, y_mhm)) : Met l yX8_holesOf (.code yX8_holesOf cX8_holesOf 10 (some .long) :: tw) ({ frames := 4, cells := 0, slots := 0, locals := 106 } : Room) (wrP D [.ref oM, .long a1] (wdM cJ cI oM oM1 oM2 oM3 oM4 oM5 oM6 oM7 oM8 oM9 oM10 oM11 mw mt mrim mjn mhm mpn mbm mgm mpi mst mam mac mro mbe mhi mmi mgr mtr mle) [(cI, .int), (cJ, .long)] sz) (va_Ql (fun q (_ : Unit) => q = r) (fun (_ : Unit) (t : State) => va_P D vwCl (wdM cJ cI oM oM1 oM2 oM3 oM4 oM5 oM6 oM7 oM8 oM9 oM10 oM11 mw mt mrim mjn y_mhm mpn mbm mgm mpi mst mam mac mro mbe mhi mmi mgr mtr mle) t.heap ∧ va_K D vwCl [(cI, .int), (cJ, .long)] t ∧ va_D (va_A (wdM cJ cI oM oM1 oM2 oM3 oM4 oM5 oM6 oM7 oM8 oM9 oM10 oM11 mw mt mrim mjn mhm mpn mbm mgm mpi mst mam mac mro mbe mhi mmi mgr mtr mle) sz) (wdM cJ cI oM oM1 oM2 oM3 oM4 oM5 oM6 oM7 oM8 oM9 oM10 oM11 mw mt mrim mjn y_mhm mpn mbm mgm mpi mst mam mac mro mbe mhi mmi mgr mtr mle)) (va_A (wdM cJ cI oM oM1 oM2 oM3 oM4 oM5 oM6 oM7 oM8 oM9 oM10 oM11 mw mt mrim mjn mhm mpn mbm mgm mpi mst mam mac mro mbe mhi mmi mgr mtr mle) sz)) 0 0 (va_A (wdM cJ cI oM oM1 oM2 oM3 oM4 oM5 oM6 oM7 oM8 oM9 oM10 oM11 mw mt mrim mjn mhm mpn mbm mgm mpi mst mam mac mro mbe mhi mmi mgr mtr mle) sz) := by
  refine Met.ofW (cc := cX8_holesOf) (maxL := 10) (ret := (some .long)) (by decide) rfl ?_
  intro p e s m args below meth c s₁ B hml hv
  obtain ⟨rfl, hsz, hP, hK, hD0⟩ := hv
  have hx := B.exec
  have hb := B.bytes
  have hr := B.returns
  have hts : ∀ w ∈ tw, w.before _ s = true := fun w h => atoms_spec (ws := .code yX8_holesOf cX8_holesOf 10 (some .long) :: tw) B.pre w (List.mem_cons_of_mem _ h)
  have hown : s.vm.findClass RX8 = some m.cls := findClass_of_methodNamed B.named
  have hlocks := B.notSynchronized
  subst hsz
  have hD := hD0.self (sz := s.heap.size)
  have hl := lv_entry ([.ref oM, .long a1]) (n := 10) (Nat.le_of_ble_eq_true rfl)
  rw [lg_entry_eq]
  generalize (lg_sl ([.ref oM, .long a1]) ++ List.replicate (10 - (lg_sl ([.ref oM, .long a1])).length) Slot.unset).toArray = ls at hl ⊢
  refine bX8_holesOf hx hb hml hown hts hK (fun q h => Or.inr h) ⟨Nat.le_of_ble_eq_true rfl, Nat.le_of_ble_eq_true rfl, Nat.zero_le _, Nat.zero_le _⟩ hm ls hl hP hD va_S.rf (fun pc ls H locs hd hP hD hS => ?_)
  exact W.lret hx hb hr (fun t ht hW => ⟨⟨r, (), rfl, rfl, by rw [ht]; exact hP, va_K.moved hW.alike hK, hD⟩, hS.F ht⟩) hS.2.2 hd
set_option maxHeartbeats 4000000 in
set_option maxRecDepth 100000 in
theorem kX8_holesOf {own : String} {cc : ByteArray} {nL idx pc : Nat} {ls : Array Slot} {rest : List Value} {ws wr : va_W} {n : Nat} {a1 : Int64} {r : Int64} {y_mhm : (Int32)} (fx : CallFix p m c cc nL s args tw own) (hq : Cond.methodLink own idx yX8_holesOf ∈ tw) (isC isR : List Nat) (hC : isC.map (fun i => ws[i]?) = ((wdM cJ cI oM oM1 oM2 oM3 oM4 oM5 oM6 oM7 oM8 oM9 oM10 oM11 mw mt mrim mjn mhm mpn mbm mgm mpi mst mam mac mro mbe mhi mmi mgr mtr mle) : va_W).map some) (hRr : isR.map (fun i => ws[i]?) = wr.map some) (hnC : va_nd isC = true) (hn : va_nd isR = true) (hdis : ∀ i ∈ isR, i ∉ isC) (hK : va_K D vwCl [(cI, .int), (cJ, .long)] s) (hm : mX8_holesOf n mw mt mjn a1 = some (r, y_mhm)) (hsz : ls.size = nL) (hR : 5 ≤ R.frames ∧ 135 ≤ R.locals ∧ cells ≤ R.cells ∧ slots ≤ R.slots) (hst : (rest.map fun v => v.category).sum ≤ 8) (hd : decode cc pc = .ok (.invokevirtual idx, 3)) (hP : va_P D vwCl ws H) (hD : va_D A ws) (hS : va_S A s.heap H locs) (hA : ∀ q, s.heap.size ≤ q → A q) (kk : ∀ (H : Heap) (locs : List Loc), va_P D vwCl (wr ++ (wdM cJ cI oM oM1 oM2 oM3 oM4 oM5 oM6 oM7 oM8 oM9 oM10 oM11 mw mt mrim mjn y_mhm mpn mbm mgm mpi mst mam mac mro mbe mhi mmi mgr mtr mle)) H → va_D A (wr ++ (wdM cJ cI oM oM1 oM2 oM3 oM4 oM5 oM6 oM7 oM8 oM9 oM10 oM11 mw mt mrim mjn y_mhm mpn mbm mgm mpi mst mam mac mro mbe mhi mmi mgr mtr mle)) → va_S A s.heap H locs → W p l e R s m args below meth c H locs cells slots Q (F0 m (pc + 3) ls (.long r :: rest))) : W p l e R s m args below meth c H locs cells slots Q (F0 m pc ls (.long a1 :: .ref oM :: rest)) := by
  have hPc := va_P.subM hP isC hC
  have hDc := hD.sub isC hnC hC
  have hFc := va_free (wc := (wdM cJ cI oM oM1 oM2 oM3 oM4 oM5 oM6 oM7 oM8 oM9 oM10 oM11 mw mt mrim mjn mhm mpn mbm mgm mpi mst mam mac mro mbe mhi mmi mgr mtr mle)) hD hS hA isC hC
  refine va_calll (va_runV (As := [.long a1]) (rest := rest) fx (tX8_holesOf l H.size hm) (cwV 1 fx.2.2.2.2 (tw_V hq qw_498 qw_499 qw_53 qw_500) rfl rfl rfl (by decide +kernel) ⟨hR.1, hR.2.1⟩) ⟨wrP_bl, va_recv hK hPc (ci := 8) (q0 := 0) rfl rfl, wrP_ok hPc hK hDc⟩ rfl rfl hsz rfl (lv_room hst) hd ⟨hR.2.2.1, hR.2.2.2⟩) hS (fun q _ h => hFc q h) hFc (fun r9 u t H1 locs ht hvm hw hB hz1 hk1 hS => ?_)
  obtain ⟨hP1, hK1, hD1⟩ := hB
  rw [ht] at hP1
  rw [hw]
  obtain ⟨hP2, hD2⟩ := va_join (wr := wr) (w1 := (wdM cJ cI oM oM1 oM2 oM3 oM4 oM5 oM6 oM7 oM8 oM9 oM10 oM11 mw mt mrim mjn y_mhm mpn mbm mgm mpi mst mam mac mro mbe mhi mmi mgr mtr mle)) hP hD isC isR hC hRr hn hdis hk1 hFc hP1 hD1
  exact kk H1 locs hP2 hD2 hS
-- X8_count
def mX8_count (n : Nat) (mhm : Int32) (mw : Int32) (mt : Int32) (mjn : Int32) (mpi : Nat → Int64) (a1 : Int32) (a2 : Int32) : Option (Int32 × (Int32)) :=
  (if (mX8_isPicture a1) = 0 then (some ((-1 : Int32), mhm)) else gd (ib a1 5) (jb2 (mX8_holesOf n mw mt mjn (mpi a1.toNatClampNeg)) (fun (r6 : Int64) (y7 : Int32) => (if a2 = (0 : Int32) then jb (mX8_piecesOf n mw mt mjn (mpi a1.toNatClampNeg)) (fun (r9 : Int32) => (some (r9, y7))) else (if a2 = (1 : Int32) then (some (y7, y7)) else (if a2 = (2 : Int32) then jb (mX8_edgeOf n mw mt (mpi a1.toNatClampNeg)) (fun (r13 : Int32) => (some (r13, y7))) else (if a2 = (3 : Int32) then jb (mX8_many n (mpi a1.toNatClampNeg)) (fun (r16 : Int32) => (some (r16, y7))) else (some ((-2 : Int32), y7)))))))))
theorem dX8_count_0 : decode cX8_count 0 = .ok (.iload_n 1, 1) := by decide +kernel
theorem dX8_count_1 : decode cX8_count 1 = .ok (.invokestatic 71, 3) := by decide +kernel
theorem dX8_count_4 : decode cX8_count 4 = .ok (.ifCond .ne 5, 3) := by decide +kernel
theorem dX8_count_7 : decode cX8_count 7 = .ok (.iconst (-1), 1) := by decide +kernel
theorem dX8_count_8 : decode cX8_count 8 = .ok (.ireturn, 1) := by decide +kernel
theorem dX8_count_9 : decode cX8_count 9 = .ok (.aload_n 0, 1) := by decide +kernel
theorem dX8_count_10 : decode cX8_count 10 = .ok (.getfield 16, 3) := by decide +kernel
theorem dX8_count_13 : decode cX8_count 13 = .ok (.iload_n 1, 1) := by decide +kernel
theorem dX8_count_14 : decode cX8_count 14 = .ok (.laload, 1) := by decide +kernel
theorem dX8_count_15 : decode cX8_count 15 = .ok (.lstore_n 3, 1) := by decide +kernel
theorem dX8_count_16 : decode cX8_count 16 = .ok (.aload_n 0, 1) := by decide +kernel
theorem dX8_count_17 : decode cX8_count 17 = .ok (.lload_n 3, 1) := by decide +kernel
theorem dX8_count_18 : decode cX8_count 18 = .ok (.invokevirtual 149, 3) := by decide +kernel
theorem dX8_count_21 : decode cX8_count 21 = .ok (.lstore 5, 2) := by decide +kernel
theorem dX8_count_23 : decode cX8_count 23 = .ok (.iload_n 2, 1) := by decide +kernel
theorem dX8_count_24 : decode cX8_count 24 = .ok (.tableswitch 54 0 3 #[32, 38, 43, 49], 32) := by decide +kernel
theorem dX8_count_56 : decode cX8_count 56 = .ok (.aload_n 0, 1) := by decide +kernel
theorem dX8_count_57 : decode cX8_count 57 = .ok (.lload_n 3, 1) := by decide +kernel
theorem dX8_count_58 : decode cX8_count 58 = .ok (.invokevirtual 153, 3) := by decide +kernel
theorem dX8_count_61 : decode cX8_count 61 = .ok (.ireturn, 1) := by decide +kernel
theorem dX8_count_62 : decode cX8_count 62 = .ok (.aload_n 0, 1) := by decide +kernel
theorem dX8_count_63 : decode cX8_count 63 = .ok (.getfield 136, 3) := by decide +kernel
theorem dX8_count_66 : decode cX8_count 66 = .ok (.ireturn, 1) := by decide +kernel
theorem dX8_count_67 : decode cX8_count 67 = .ok (.aload_n 0, 1) := by decide +kernel
theorem dX8_count_68 : decode cX8_count 68 = .ok (.lload_n 3, 1) := by decide +kernel
theorem dX8_count_69 : decode cX8_count 69 = .ok (.invokevirtual 156, 3) := by decide +kernel
theorem dX8_count_72 : decode cX8_count 72 = .ok (.ireturn, 1) := by decide +kernel
theorem dX8_count_73 : decode cX8_count 73 = .ok (.lload_n 3, 1) := by decide +kernel
theorem dX8_count_74 : decode cX8_count 74 = .ok (.invokestatic 88, 3) := by decide +kernel
theorem dX8_count_77 : decode cX8_count 77 = .ok (.ireturn, 1) := by decide +kernel
theorem dX8_count_78 : decode cX8_count 78 = .ok (.bipush (-2), 2) := by decide +kernel
theorem dX8_count_80 : decode cX8_count 80 = .ok (.ireturn, 1) := by decide +kernel
set_option maxHeartbeats 4000000 in
set_option maxRecDepth 100000 in
theorem bX8_count {n : Nat} {a1 : Int32} {a2 : Int32} {r : Int32} {y_mhm : (Int32)} (hx : p.tables.exec = Jvm.exec) (hb : c.code = cX8_count) (hml : c.maxLocals = 7) (hown : s.vm.findClass RX8 = some m.cls) (hts : ∀ w ∈ tw, w.before args s = true) (hK : va_K D vwCl [(cI, .int), (cJ, .long)] s) (hA : ∀ q, s.heap.size ≤ q → A q) (hR : 5 ≤ R.frames ∧ 135 ≤ R.locals ∧ cells ≤ R.cells ∧ slots ≤ R.slots) (hm : mX8_count n mhm mw mt mjn mpi a1 a2 = some (r, y_mhm)) (ls : Array Slot) (hl : lv_has ls 7 [(0, .ref oM), (1, .int a1), (2, .int a2)]) (hP : va_P D vwCl (wdM cJ cI oM oM1 oM2 oM3 oM4 oM5 oM6 oM7 oM8 oM9 oM10 oM11 mw mt mrim mjn mhm mpn mbm mgm mpi mst mam mac mro mbe mhi mmi mgr mtr mle) H) (hD : va_D A (wdM cJ cI oM oM1 oM2 oM3 oM4 oM5 oM6 oM7 oM8 oM9 oM10 oM11 mw mt mrim mjn mhm mpn mbm mgm mpi mst mam mac mro mbe mhi mmi mgr mtr mle)) (hS : va_S A s.heap H locs) (K : ∀ (pc : Nat) (ls : Array Slot) (H : Heap) (locs : List Loc), decode cX8_count pc = .ok (.ireturn, 1) → va_P D vwCl (wdM cJ cI oM oM1 oM2 oM3 oM4 oM5 oM6 oM7 oM8 oM9 oM10 oM11 mw mt mrim mjn y_mhm mpn mbm mgm mpi mst mam mac mro mbe mhi mmi mgr mtr mle) H → va_D A (wdM cJ cI oM oM1 oM2 oM3 oM4 oM5 oM6 oM7 oM8 oM9 oM10 oM11 mw mt mrim mjn y_mhm mpn mbm mgm mpi mst mam mac mro mbe mhi mmi mgr mtr mle) → va_S A s.heap H locs → W p l e R s m args below meth c H locs cells slots Q (F0 m pc ls [.int r])) : W p l e R s m args below meth c H locs cells slots Q (F0 m 0 ls []) := by
  unfold mX8_count at hm
  refine lv_iload_n hx hb dX8_count_0 rfl (lv_at hl 1 rfl) ?_
  refine kX8_isPicture ⟨hx, hb, hml, hown, hts⟩ qw_101 hl.1 ⟨Nat.le_trans (by decide) hR.1, Nat.le_trans (by decide) hR.2.1, hR.2.2⟩ (Nat.le_of_ble_eq_true rfl) dX8_count_1 ?_
  refine lv_if_ne (tgt := 9) hx hb dX8_count_4 (by decide) (fun c2 => ?_) (fun c2 => ?_)
  · rw [if_neg c2] at hm
    refine lv_aload_n hx hb dX8_count_9 rfl (lv_at hl 0 rfl) ?_
    refine va_get (D := D) (ci := 8) (v := .ref oM1) (C := RX8) (T := TX8) (N := 19) hx hb hts tnX8 hown hK hP 0 rfl rfl 2 (by decide) (hts _ qw_103) (fun _ h9 => h9) rfl dX8_count_10 ?_
    refine lv_iload_n hx hb dX8_count_13 rfl (lv_at hl 1 rfl) ?_
    obtain ⟨g3, hm⟩ := gd_out hm
    refine va_lald hx hb hK hP 1 1 rfl rfl g3 dX8_count_14 ?_
    refine lv_lstore_n (lv' := [(3, .long (mpi a1.toNatClampNeg)), (0, .ref oM), (1, .int a1), (2, .int a2)]) hx hb dX8_count_15 rfl hl (by decide) rfl (fun ls hl => ?_)
    refine lv_aload_n hx hb dX8_count_16 rfl (lv_at hl 1 rfl) ?_
    refine lv_lload_n hx hb dX8_count_17 rfl (lv_at hl 0 rfl) ?_
    obtain ⟨r6, y7, h5, hm⟩ := jb_out2 hm
    refine kX8_holesOf (ws := (wdM cJ cI oM oM1 oM2 oM3 oM4 oM5 oM6 oM7 oM8 oM9 oM10 oM11 mw mt mrim mjn mhm mpn mbm mgm mpi mst mam mac mro mbe mhi mmi mgr mtr mle)) (wr := []) ⟨hx, hb, hml, hown, hts⟩ qw_501 [0, 1, 2, 3, 4, 5, 6, 7, 8, 9, 10, 11] [] rfl rfl (by decide) (by decide) (by decide) hK h5 hl.1 ⟨Nat.le_trans (by decide) hR.1, Nat.le_trans (by decide) hR.2.1, hR.2.2⟩ (Nat.le_of_ble_eq_true rfl) dX8_count_18 hP hD hS hA (fun H locs hP hD hS => ?_)
    have hP : va_P D vwCl (wdM cJ cI oM oM1 oM2 oM3 oM4 oM5 oM6 oM7 oM8 oM9 oM10 oM11 mw mt mrim mjn y7 mpn mbm mgm mpi mst mam mac mro mbe mhi mmi mgr mtr mle) H := hP.sub [0, 1, 2, 3, 4, 5, 6, 7, 8, 9, 10, 11] rfl
    have hD : va_D A (wdM cJ cI oM oM1 oM2 oM3 oM4 oM5 oM6 oM7 oM8 oM9 oM10 oM11 mw mt mrim mjn y7 mpn mbm mgm mpi mst mam mac mro mbe mhi mmi mgr mtr mle) := hD.sub [0, 1, 2, 3, 4, 5, 6, 7, 8, 9, 10, 11] (by decide) rfl
    refine lv_lstore (lv' := [(5, .long r6), (3, .long (mpi a1.toNatClampNeg)), (0, .ref oM), (1, .int a1), (2, .int a2)]) hx hb dX8_count_21 hl (by decide) rfl (fun ls hl => ?_)
    refine lv_iload_n hx hb dX8_count_23 rfl (lv_at hl 4 rfl) ?_
    by_cases c8 : a2 = (0 : Int32)
    · rw [if_pos c8] at hm
      refine lv_tableIn (tgt := 56) hx hb dX8_count_24 (by rw [c8]; decide) (by rw [c8]; decide) (by rw [c8]; rfl) (by decide) ?_
      refine lv_aload_n hx hb dX8_count_56 rfl (lv_at hl 2 rfl) ?_
      refine lv_lload_n hx hb dX8_count_57 rfl (lv_at hl 1 rfl) ?_
      obtain ⟨r9, h10, hm⟩ := jb_out hm
      refine kX8_piecesOf ⟨hx, hb, hml, hown, hts⟩ qw_502 hP hK h10 hl.1 ⟨Nat.le_trans (by decide) hR.1, Nat.le_trans (by decide) hR.2.1, hR.2.2⟩ (Nat.le_of_ble_eq_true rfl) dX8_count_58 ?_
      have hm := Option.some.inj hm
      have e9 : r = r9 := (congrArg (fun q => q.1) hm).symm
      rw [e9] at K
      have e9 : y_mhm = y7 := (congrArg (fun q => q.2) hm).symm
      rw [e9] at K
      exact K 61 ls _ _ dX8_count_61 hP hD hS
    rw [if_neg c8] at hm
    by_cases c11 : a2 = (1 : Int32)
    · rw [if_pos c11] at hm
      refine lv_tableIn (tgt := 62) hx hb dX8_count_24 (by rw [c11]; decide) (by rw [c11]; decide) (by rw [c11]; rfl) (by decide) ?_
      refine lv_aload_n hx hb dX8_count_62 rfl (lv_at hl 2 rfl) ?_
      refine va_get (D := D) (ci := 8) (v := .int y7) (C := RX8) (T := TX8) (N := 19) hx hb hts tnX8 hown hK hP 0 rfl rfl 10 (by decide) (hts _ qw_496) (fun _ h9 => h9) rfl dX8_count_63 ?_
      have hm := Option.some.inj hm
      have e9 : r = y7 := (congrArg (fun q => q.1) hm).symm
      rw [e9] at K
      have e9 : y_mhm = y7 := (congrArg (fun q => q.2) hm).symm
      rw [e9] at K
      exact K 66 ls _ _ dX8_count_66 hP hD hS
    rw [if_neg c11] at hm
    by_cases c12 : a2 = (2 : Int32)
    · rw [if_pos c12] at hm
      refine lv_tableIn (tgt := 67) hx hb dX8_count_24 (by rw [c12]; decide) (by rw [c12]; decide) (by rw [c12]; rfl) (by decide) ?_
      refine lv_aload_n hx hb dX8_count_67 rfl (lv_at hl 2 rfl) ?_
      refine lv_lload_n hx hb dX8_count_68 rfl (lv_at hl 1 rfl) ?_
      obtain ⟨r13, h14, hm⟩ := jb_out hm
      refine kX8_edgeOf ⟨hx, hb, hml, hown, hts⟩ qw_503 hP hK h14 hl.1 ⟨Nat.le_trans (by decide) hR.1, Nat.le_trans (by decide) hR.2.1, hR.2.2⟩ (Nat.le_of_ble_eq_true rfl) dX8_count_69 ?_
      have hm := Option.some.inj hm
      have e9 : r = r13 := (congrArg (fun q => q.1) hm).symm
      rw [e9] at K
      have e9 : y_mhm = y7 := (congrArg (fun q => q.2) hm).symm
      rw [e9] at K
      exact K 72 ls _ _ dX8_count_72 hP hD hS
    rw [if_neg c12] at hm
    by_cases c15 : a2 = (3 : Int32)
    · rw [if_pos c15] at hm
      refine lv_tableIn (tgt := 73) hx hb dX8_count_24 (by rw [c15]; decide) (by rw [c15]; decide) (by rw [c15]; rfl) (by decide) ?_
      refine lv_lload_n hx hb dX8_count_73 rfl (lv_at hl 1 rfl) ?_
      obtain ⟨r16, h17, hm⟩ := jb_out hm
      refine kX8_many ⟨hx, hb, hml, hown, hts⟩ qw_112 h17 hl.1 ⟨Nat.le_trans (by decide) hR.1, Nat.le_trans (by decide) hR.2.1, hR.2.2⟩ (Nat.le_of_ble_eq_true rfl) dX8_count_74 ?_
      have hm := Option.some.inj hm
      have e9 : r = r16 := (congrArg (fun q => q.1) hm).symm
      rw [e9] at K
      have e9 : y_mhm = y7 := (congrArg (fun q => q.2) hm).symm
      rw [e9] at K
      exact K 77 ls _ _ dX8_count_77 hP hD hS
    rw [if_neg c15] at hm
    refine lv_tableOut (tgt := 78) hx hb dX8_count_24 (tsw4 (by assumption) (by assumption) (by assumption) (by assumption)) (by decide) ?_
    refine lv_bipush (v := (-2 : Int32)) hx hb dX8_count_78 (by decide) ?_
    have hm := Option.some.inj hm
    have e9 : r = (-2 : Int32) := (congrArg (fun q => q.1) hm).symm
    rw [e9] at K
    have e9 : y_mhm = y7 := (congrArg (fun q => q.2) hm).symm
    rw [e9] at K
    exact K 80 ls _ _ dX8_count_80 hP hD hS
  · rw [if_pos c2] at hm
    refine lv_iconst (v := (-1 : Int32)) hx hb dX8_count_7 (by decide) ?_
    have hm := Option.some.inj hm
    have e9 : r = (-1 : Int32) := (congrArg (fun q => q.1) hm).symm
    rw [e9] at K
    have e9 : y_mhm = mhm := (congrArg (fun q => q.2) hm).symm
    rw [e9] at K
    exact K 8 ls _ _ dX8_count_8 hP hD hS
set_option maxHeartbeats 4000000 in
set_option maxRecDepth 100000 in
theorem tX8_count (l : Launch) {D : va_G} (sz : Nat) {n : Nat} {a1 : Int32} {a2 : Int32} {r : Int32} {y_mhm : (Int32)} (hm : mX8_count n mhm mw mt mjn mpi a1 a2 = some (r, y_mhm)) : Met l yX8_count (.code yX8_count cX8_count 7 (some .int) :: tw) ({ frames := 5, cells := 0, slots := 0, locals := 135 } : Room) (wrP D [.ref oM, .int a1, .int a2] (wdM cJ cI oM oM1 oM2 oM3 oM4 oM5 oM6 oM7 oM8 oM9 oM10 oM11 mw mt mrim mjn mhm mpn mbm mgm mpi mst mam mac mro mbe mhi mmi mgr mtr mle) [(cI, .int), (cJ, .long)] sz) (va_Qi (fun q (_ : Unit) => q = r) (fun (_ : Unit) (t : State) => va_P D vwCl (wdM cJ cI oM oM1 oM2 oM3 oM4 oM5 oM6 oM7 oM8 oM9 oM10 oM11 mw mt mrim mjn y_mhm mpn mbm mgm mpi mst mam mac mro mbe mhi mmi mgr mtr mle) t.heap ∧ va_K D vwCl [(cI, .int), (cJ, .long)] t ∧ va_D (va_A (wdM cJ cI oM oM1 oM2 oM3 oM4 oM5 oM6 oM7 oM8 oM9 oM10 oM11 mw mt mrim mjn mhm mpn mbm mgm mpi mst mam mac mro mbe mhi mmi mgr mtr mle) sz) (wdM cJ cI oM oM1 oM2 oM3 oM4 oM5 oM6 oM7 oM8 oM9 oM10 oM11 mw mt mrim mjn y_mhm mpn mbm mgm mpi mst mam mac mro mbe mhi mmi mgr mtr mle)) (va_A (wdM cJ cI oM oM1 oM2 oM3 oM4 oM5 oM6 oM7 oM8 oM9 oM10 oM11 mw mt mrim mjn mhm mpn mbm mgm mpi mst mam mac mro mbe mhi mmi mgr mtr mle) sz)) 0 0 (va_A (wdM cJ cI oM oM1 oM2 oM3 oM4 oM5 oM6 oM7 oM8 oM9 oM10 oM11 mw mt mrim mjn mhm mpn mbm mgm mpi mst mam mac mro mbe mhi mmi mgr mtr mle) sz) := by
  refine Met.ofW (cc := cX8_count) (maxL := 7) (ret := (some .int)) (by decide) rfl ?_
  intro p e s m args below meth c s₁ B hml hv
  obtain ⟨rfl, hsz, hP, hK, hD0⟩ := hv
  have hx := B.exec
  have hb := B.bytes
  have hr := B.returns
  have hts : ∀ w ∈ tw, w.before _ s = true := fun w h => atoms_spec (ws := .code yX8_count cX8_count 7 (some .int) :: tw) B.pre w (List.mem_cons_of_mem _ h)
  have hown : s.vm.findClass RX8 = some m.cls := findClass_of_methodNamed B.named
  have hlocks := B.notSynchronized
  subst hsz
  have hD := hD0.self (sz := s.heap.size)
  have hl := lv_entry ([.ref oM, .int a1, .int a2]) (n := 7) (Nat.le_of_ble_eq_true rfl)
  rw [lg_entry_eq]
  generalize (lg_sl ([.ref oM, .int a1, .int a2]) ++ List.replicate (7 - (lg_sl ([.ref oM, .int a1, .int a2])).length) Slot.unset).toArray = ls at hl ⊢
  refine bX8_count hx hb hml hown hts hK (fun q h => Or.inr h) ⟨Nat.le_of_ble_eq_true rfl, Nat.le_of_ble_eq_true rfl, Nat.zero_le _, Nat.zero_le _⟩ hm ls hl hP hD va_S.rf (fun pc ls H locs hd hP hD hS => ?_)
  exact W.iret hx hb hr (fun t ht hW => ⟨⟨r, (), rfl, rfl, by rw [ht]; exact hP, va_K.moved hW.alike hK, hD⟩, hS.F ht⟩) hS.2.2 hd
set_option maxHeartbeats 4000000 in
set_option maxRecDepth 100000 in
theorem kX8_count {own : String} {cc : ByteArray} {nL idx pc : Nat} {ls : Array Slot} {rest : List Value} {ws wr : va_W} {n : Nat} {a1 : Int32} {a2 : Int32} {r : Int32} {y_mhm : (Int32)} (fx : CallFix p m c cc nL s args tw own) (hq : Cond.methodLink own idx yX8_count ∈ tw) (isC isR : List Nat) (hC : isC.map (fun i => ws[i]?) = ((wdM cJ cI oM oM1 oM2 oM3 oM4 oM5 oM6 oM7 oM8 oM9 oM10 oM11 mw mt mrim mjn mhm mpn mbm mgm mpi mst mam mac mro mbe mhi mmi mgr mtr mle) : va_W).map some) (hRr : isR.map (fun i => ws[i]?) = wr.map some) (hnC : va_nd isC = true) (hn : va_nd isR = true) (hdis : ∀ i ∈ isR, i ∉ isC) (hK : va_K D vwCl [(cI, .int), (cJ, .long)] s) (hm : mX8_count n mhm mw mt mjn mpi a1 a2 = some (r, y_mhm)) (hsz : ls.size = nL) (hR : 6 ≤ R.frames ∧ 161 ≤ R.locals ∧ cells ≤ R.cells ∧ slots ≤ R.slots) (hst : (rest.map fun v => v.category).sum ≤ 8) (hd : decode cc pc = .ok (.invokevirtual idx, 3)) (hP : va_P D vwCl ws H) (hD : va_D A ws) (hS : va_S A s.heap H locs) (hA : ∀ q, s.heap.size ≤ q → A q) (kk : ∀ (H : Heap) (locs : List Loc), va_P D vwCl (wr ++ (wdM cJ cI oM oM1 oM2 oM3 oM4 oM5 oM6 oM7 oM8 oM9 oM10 oM11 mw mt mrim mjn y_mhm mpn mbm mgm mpi mst mam mac mro mbe mhi mmi mgr mtr mle)) H → va_D A (wr ++ (wdM cJ cI oM oM1 oM2 oM3 oM4 oM5 oM6 oM7 oM8 oM9 oM10 oM11 mw mt mrim mjn y_mhm mpn mbm mgm mpi mst mam mac mro mbe mhi mmi mgr mtr mle)) → va_S A s.heap H locs → W p l e R s m args below meth c H locs cells slots Q (F0 m (pc + 3) ls (.int r :: rest))) : W p l e R s m args below meth c H locs cells slots Q (F0 m pc ls (.int a2 :: .int a1 :: .ref oM :: rest)) := by
  have hPc := va_P.subM hP isC hC
  have hDc := hD.sub isC hnC hC
  have hFc := va_free (wc := (wdM cJ cI oM oM1 oM2 oM3 oM4 oM5 oM6 oM7 oM8 oM9 oM10 oM11 mw mt mrim mjn mhm mpn mbm mgm mpi mst mam mac mro mbe mhi mmi mgr mtr mle)) hD hS hA isC hC
  refine va_calli (va_runV (As := [.int a1, .int a2]) (rest := rest) fx (tX8_count l H.size hm) (cwV 2 fx.2.2.2.2 (tw_V hq qw_504 qw_505 qw_53 qw_506) rfl rfl rfl (by decide +kernel) ⟨hR.1, hR.2.1⟩) ⟨wrP_bl, va_recv hK hPc (ci := 8) (q0 := 0) rfl rfl, wrP_ok hPc hK hDc⟩ rfl rfl hsz rfl (lv_room hst) hd ⟨hR.2.2.1, hR.2.2.2⟩) hS (fun q _ h => hFc q h) hFc (fun r9 u t H1 locs ht hvm hw hB hz1 hk1 hS => ?_)
  obtain ⟨hP1, hK1, hD1⟩ := hB
  rw [ht] at hP1
  rw [hw]
  obtain ⟨hP2, hD2⟩ := va_join (wr := wr) (w1 := (wdM cJ cI oM oM1 oM2 oM3 oM4 oM5 oM6 oM7 oM8 oM9 oM10 oM11 mw mt mrim mjn y_mhm mpn mbm mgm mpi mst mam mac mro mbe mhi mmi mgr mtr mle)) hP hD isC isR hC hRr hn hdis hk1 hFc hP1 hD1
  exact kk H1 locs hP2 hD2 hS
-- X8_fill
def mX8_fill (n : Nat) (mhm : Int32) (mpi : Nat → Int64) (mw : Int32) (mt : Int32) (mjn : Int32) (a1 : Int32) : Option (Int32 × (Int32) × (Nat → Int64)) :=
  (if (mX8_isPicture a1) = 0 then (some ((-1 : Int32), mhm, mpi)) else gd (ib a1 5) (jb2 (mX8_holesOf n mw mt mjn (mpi a1.toNatClampNeg)) (fun (r6 : Int64) (y7 : Int32) => gd (ib a1 5) (gd (ib a1 5) (jb (mX8_many n r6) (fun (r10 : Int32) => (some (r10, y7, (vp_updL mpi a1.toNatClampNeg ((mpi a1.toNatClampNeg) ||| r6))))))))))
theorem dX8_fill_0 : decode cX8_fill 0 = .ok (.iload_n 1, 1) := by decide +kernel
theorem dX8_fill_1 : decode cX8_fill 1 = .ok (.invokestatic 71, 3) := by decide +kernel
theorem dX8_fill_4 : decode cX8_fill 4 = .ok (.ifCond .ne 5, 3) := by decide +kernel
theorem dX8_fill_7 : decode cX8_fill 7 = .ok (.iconst (-1), 1) := by decide +kernel
theorem dX8_fill_8 : decode cX8_fill 8 = .ok (.ireturn, 1) := by decide +kernel
theorem dX8_fill_9 : decode cX8_fill 9 = .ok (.aload_n 0, 1) := by decide +kernel
theorem dX8_fill_10 : decode cX8_fill 10 = .ok (.aload_n 0, 1) := by decide +kernel
theorem dX8_fill_11 : decode cX8_fill 11 = .ok (.getfield 16, 3) := by decide +kernel
theorem dX8_fill_14 : decode cX8_fill 14 = .ok (.iload_n 1, 1) := by decide +kernel
theorem dX8_fill_15 : decode cX8_fill 15 = .ok (.laload, 1) := by decide +kernel
theorem dX8_fill_16 : decode cX8_fill 16 = .ok (.invokevirtual 149, 3) := by decide +kernel
theorem dX8_fill_19 : decode cX8_fill 19 = .ok (.lstore_n 2, 1) := by decide +kernel
theorem dX8_fill_20 : decode cX8_fill 20 = .ok (.aload_n 0, 1) := by decide +kernel
theorem dX8_fill_21 : decode cX8_fill 21 = .ok (.getfield 16, 3) := by decide +kernel
theorem dX8_fill_24 : decode cX8_fill 24 = .ok (.iload_n 1, 1) := by decide +kernel
theorem dX8_fill_25 : decode cX8_fill 25 = .ok (.dup2, 1) := by decide +kernel
theorem dX8_fill_26 : decode cX8_fill 26 = .ok (.laload, 1) := by decide +kernel
theorem dX8_fill_27 : decode cX8_fill 27 = .ok (.lload_n 2, 1) := by decide +kernel
theorem dX8_fill_28 : decode cX8_fill 28 = .ok (.lor, 1) := by decide +kernel
theorem dX8_fill_29 : decode cX8_fill 29 = .ok (.lastore, 1) := by decide +kernel
theorem dX8_fill_30 : decode cX8_fill 30 = .ok (.lload_n 2, 1) := by decide +kernel
theorem dX8_fill_31 : decode cX8_fill 31 = .ok (.invokestatic 88, 3) := by decide +kernel
theorem dX8_fill_34 : decode cX8_fill 34 = .ok (.ireturn, 1) := by decide +kernel
set_option maxHeartbeats 4000000 in
set_option maxRecDepth 100000 in
theorem bX8_fill {n : Nat} {a1 : Int32} {r : Int32} {y_mhm : (Int32)} {y_mpi : (Nat → Int64)} (hx : p.tables.exec = Jvm.exec) (hb : c.code = cX8_fill) (hml : c.maxLocals = 4) (hown : s.vm.findClass RX8 = some m.cls) (hts : ∀ w ∈ tw, w.before args s = true) (hK : va_K D vwCl [(cI, .int), (cJ, .long)] s) (hA : ∀ q, s.heap.size ≤ q → A q) (hR : 5 ≤ R.frames ∧ 135 ≤ R.locals ∧ cells ≤ R.cells ∧ slots ≤ R.slots) (hm : mX8_fill n mhm mpi mw mt mjn a1 = some (r, y_mhm, y_mpi)) (ls : Array Slot) (hl : lv_has ls 4 [(0, .ref oM), (1, .int a1)]) (hP : va_P D vwCl (wdM cJ cI oM oM1 oM2 oM3 oM4 oM5 oM6 oM7 oM8 oM9 oM10 oM11 mw mt mrim mjn mhm mpn mbm mgm mpi mst mam mac mro mbe mhi mmi mgr mtr mle) H) (hD : va_D A (wdM cJ cI oM oM1 oM2 oM3 oM4 oM5 oM6 oM7 oM8 oM9 oM10 oM11 mw mt mrim mjn mhm mpn mbm mgm mpi mst mam mac mro mbe mhi mmi mgr mtr mle)) (hS : va_S A s.heap H locs) (K : ∀ (pc : Nat) (ls : Array Slot) (H : Heap) (locs : List Loc), decode cX8_fill pc = .ok (.ireturn, 1) → va_P D vwCl (wdM cJ cI oM oM1 oM2 oM3 oM4 oM5 oM6 oM7 oM8 oM9 oM10 oM11 mw mt mrim mjn y_mhm mpn mbm mgm y_mpi mst mam mac mro mbe mhi mmi mgr mtr mle) H → va_D A (wdM cJ cI oM oM1 oM2 oM3 oM4 oM5 oM6 oM7 oM8 oM9 oM10 oM11 mw mt mrim mjn y_mhm mpn mbm mgm y_mpi mst mam mac mro mbe mhi mmi mgr mtr mle) → va_S A s.heap H locs → W p l e R s m args below meth c H locs cells slots Q (F0 m pc ls [.int r])) : W p l e R s m args below meth c H locs cells slots Q (F0 m 0 ls []) := by
  unfold mX8_fill at hm
  refine lv_iload_n hx hb dX8_fill_0 rfl (lv_at hl 1 rfl) ?_
  refine kX8_isPicture ⟨hx, hb, hml, hown, hts⟩ qw_101 hl.1 ⟨Nat.le_trans (by decide) hR.1, Nat.le_trans (by decide) hR.2.1, hR.2.2⟩ (Nat.le_of_ble_eq_true rfl) dX8_fill_1 ?_
  refine lv_if_ne (tgt := 9) hx hb dX8_fill_4 (by decide) (fun c2 => ?_) (fun c2 => ?_)
  · rw [if_neg c2] at hm
    refine lv_aload_n hx hb dX8_fill_9 rfl (lv_at hl 0 rfl) ?_
    refine lv_aload_n hx hb dX8_fill_10 rfl (lv_at hl 0 rfl) ?_
    refine va_get (D := D) (ci := 8) (v := .ref oM1) (C := RX8) (T := TX8) (N := 19) hx hb hts tnX8 hown hK hP 0 rfl rfl 2 (by decide) (hts _ qw_103) (fun _ h9 => h9) rfl dX8_fill_11 ?_
    refine lv_iload_n hx hb dX8_fill_14 rfl (lv_at hl 1 rfl) ?_
    obtain ⟨g3, hm⟩ := gd_out hm
    refine va_lald hx hb hK hP 1 1 rfl rfl g3 dX8_fill_15 ?_
    obtain ⟨r6, y7, h5, hm⟩ := jb_out2 hm
    refine kX8_holesOf (ws := (wdM cJ cI oM oM1 oM2 oM3 oM4 oM5 oM6 oM7 oM8 oM9 oM10 oM11 mw mt mrim mjn mhm mpn mbm mgm mpi mst mam mac mro mbe mhi mmi mgr mtr mle)) (wr := []) ⟨hx, hb, hml, hown, hts⟩ qw_501 [0, 1, 2, 3, 4, 5, 6, 7, 8, 9, 10, 11] [] rfl rfl (by decide) (by decide) (by decide) hK h5 hl.1 ⟨Nat.le_trans (by decide) hR.1, Nat.le_trans (by decide) hR.2.1, hR.2.2⟩ (Nat.le_of_ble_eq_true rfl) dX8_fill_16 hP hD hS hA (fun H locs hP hD hS => ?_)
    have hP : va_P D vwCl (wdM cJ cI oM oM1 oM2 oM3 oM4 oM5 oM6 oM7 oM8 oM9 oM10 oM11 mw mt mrim mjn y7 mpn mbm mgm mpi mst mam mac mro mbe mhi mmi mgr mtr mle) H := hP.sub [0, 1, 2, 3, 4, 5, 6, 7, 8, 9, 10, 11] rfl
    have hD : va_D A (wdM cJ cI oM oM1 oM2 oM3 oM4 oM5 oM6 oM7 oM8 oM9 oM10 oM11 mw mt mrim mjn y7 mpn mbm mgm mpi mst mam mac mro mbe mhi mmi mgr mtr mle) := hD.sub [0, 1, 2, 3, 4, 5, 6, 7, 8, 9, 10, 11] (by decide) rfl
    refine lv_lstore_n (lv' := [(2, .long r6), (0, .ref oM), (1, .int a1)]) hx hb dX8_fill_19 rfl hl (by decide) rfl (fun ls hl => ?_)
    refine lv_aload_n hx hb dX8_fill_20 rfl (lv_at hl 1 rfl) ?_
    refine va_get (D := D) (ci := 8) (v := .ref oM1) (C := RX8) (T := TX8) (N := 19) hx hb hts tnX8 hown hK hP 0 rfl rfl 2 (by decide) (hts _ qw_103) (fun _ h9 => h9) rfl dX8_fill_21 ?_
    refine lv_iload_n hx hb dX8_fill_24 rfl (lv_at hl 2 rfl) ?_
    refine lv_dup2_11 hx hb dX8_fill_25 rfl rfl ?_
    obtain ⟨g8, hm⟩ := gd_out hm
    refine va_lald hx hb hK hP 1 1 rfl rfl g8 dX8_fill_26 ?_
    refine lv_lload_n hx hb dX8_fill_27 rfl (lv_at hl 0 rfl) ?_
    refine lv_lor hx hb dX8_fill_28 ?_
    obtain ⟨g9, hm⟩ := gd_out hm
    refine va_last hx hb hK hP hD hS 1 1 rfl rfl g9 dX8_fill_29 (fun H locs hP hD hS => ?_)
    have hP : va_P D vwCl (wdM cJ cI oM oM1 oM2 oM3 oM4 oM5 oM6 oM7 oM8 oM9 oM10 oM11 mw mt mrim mjn y7 mpn mbm mgm (vp_updL mpi a1.toNatClampNeg ((mpi a1.toNatClampNeg) ||| r6)) mst mam mac mro mbe mhi mmi mgr mtr mle) H := hP
    have hD : va_D A (wdM cJ cI oM oM1 oM2 oM3 oM4 oM5 oM6 oM7 oM8 oM9 oM10 oM11 mw mt mrim mjn y7 mpn mbm mgm (vp_updL mpi a1.toNatClampNeg ((mpi a1.toNatClampNeg) ||| r6)) mst mam mac mro mbe mhi mmi mgr mtr mle) := hD
    refine lv_lload_n hx hb dX8_fill_30 rfl (lv_at hl 0 rfl) ?_
    obtain ⟨r10, h11, hm⟩ := jb_out hm
    refine kX8_many ⟨hx, hb, hml, hown, hts⟩ qw_112 h11 hl.1 ⟨Nat.le_trans (by decide) hR.1, Nat.le_trans (by decide) hR.2.1, hR.2.2⟩ (Nat.le_of_ble_eq_true rfl) dX8_fill_31 ?_
    have hm := Option.some.inj hm
    have e9 : r = r10 := (congrArg (fun q => q.1) hm).symm
    rw [e9] at K
    have e9 : y_mhm = y7 := (congrArg (fun q => q.2.1) hm).symm
    rw [e9] at K
    have e9 : y_mpi = (vp_updL mpi a1.toNatClampNeg ((mpi a1.toNatClampNeg) ||| r6)) := (congrArg (fun q => q.2.2) hm).symm
    rw [e9] at K
    exact K 34 ls _ _ dX8_fill_34 hP hD hS
  · rw [if_pos c2] at hm
    refine lv_iconst (v := (-1 : Int32)) hx hb dX8_fill_7 (by decide) ?_
    have hm := Option.some.inj hm
    have e9 : r = (-1 : Int32) := (congrArg (fun q => q.1) hm).symm
    rw [e9] at K
    have e9 : y_mhm = mhm := (congrArg (fun q => q.2.1) hm).symm
    rw [e9] at K
    have e9 : y_mpi = mpi := (congrArg (fun q => q.2.2) hm).symm
    rw [e9] at K
    exact K 8 ls _ _ dX8_fill_8 hP hD hS
set_option maxHeartbeats 4000000 in
set_option maxRecDepth 100000 in
theorem tX8_fill (l : Launch) {D : va_G} (sz : Nat) {n : Nat} {a1 : Int32} {r : Int32} {y_mhm : (Int32)} {y_mpi : (Nat → Int64)} (hm : mX8_fill n mhm mpi mw mt mjn a1 = some (r, y_mhm, y_mpi)) : Met l yX8_fill (.code yX8_fill cX8_fill 4 (some .int) :: tw) ({ frames := 5, cells := 0, slots := 0, locals := 135 } : Room) (wrP D [.ref oM, .int a1] (wdM cJ cI oM oM1 oM2 oM3 oM4 oM5 oM6 oM7 oM8 oM9 oM10 oM11 mw mt mrim mjn mhm mpn mbm mgm mpi mst mam mac mro mbe mhi mmi mgr mtr mle) [(cI, .int), (cJ, .long)] sz) (va_Qi (fun q (_ : Unit) => q = r) (fun (_ : Unit) (t : State) => va_P D vwCl (wdM cJ cI oM oM1 oM2 oM3 oM4 oM5 oM6 oM7 oM8 oM9 oM10 oM11 mw mt mrim mjn y_mhm mpn mbm mgm y_mpi mst mam mac mro mbe mhi mmi mgr mtr mle) t.heap ∧ va_K D vwCl [(cI, .int), (cJ, .long)] t ∧ va_D (va_A (wdM cJ cI oM oM1 oM2 oM3 oM4 oM5 oM6 oM7 oM8 oM9 oM10 oM11 mw mt mrim mjn mhm mpn mbm mgm mpi mst mam mac mro mbe mhi mmi mgr mtr mle) sz) (wdM cJ cI oM oM1 oM2 oM3 oM4 oM5 oM6 oM7 oM8 oM9 oM10 oM11 mw mt mrim mjn y_mhm mpn mbm mgm y_mpi mst mam mac mro mbe mhi mmi mgr mtr mle)) (va_A (wdM cJ cI oM oM1 oM2 oM3 oM4 oM5 oM6 oM7 oM8 oM9 oM10 oM11 mw mt mrim mjn mhm mpn mbm mgm mpi mst mam mac mro mbe mhi mmi mgr mtr mle) sz)) 0 0 (va_A (wdM cJ cI oM oM1 oM2 oM3 oM4 oM5 oM6 oM7 oM8 oM9 oM10 oM11 mw mt mrim mjn mhm mpn mbm mgm mpi mst mam mac mro mbe mhi mmi mgr mtr mle) sz) := by
  refine Met.ofW (cc := cX8_fill) (maxL := 4) (ret := (some .int)) (by decide) rfl ?_
  intro p e s m args below meth c s₁ B hml hv
  obtain ⟨rfl, hsz, hP, hK, hD0⟩ := hv
  have hx := B.exec
  have hb := B.bytes
  have hr := B.returns
  have hts : ∀ w ∈ tw, w.before _ s = true := fun w h => atoms_spec (ws := .code yX8_fill cX8_fill 4 (some .int) :: tw) B.pre w (List.mem_cons_of_mem _ h)
  have hown : s.vm.findClass RX8 = some m.cls := findClass_of_methodNamed B.named
  have hlocks := B.notSynchronized
  subst hsz
  have hD := hD0.self (sz := s.heap.size)
  have hl := lv_entry ([.ref oM, .int a1]) (n := 4) (Nat.le_of_ble_eq_true rfl)
  rw [lg_entry_eq]
  generalize (lg_sl ([.ref oM, .int a1]) ++ List.replicate (4 - (lg_sl ([.ref oM, .int a1])).length) Slot.unset).toArray = ls at hl ⊢
  refine bX8_fill hx hb hml hown hts hK (fun q h => Or.inr h) ⟨Nat.le_of_ble_eq_true rfl, Nat.le_of_ble_eq_true rfl, Nat.zero_le _, Nat.zero_le _⟩ hm ls hl hP hD va_S.rf (fun pc ls H locs hd hP hD hS => ?_)
  exact W.iret hx hb hr (fun t ht hW => ⟨⟨r, (), rfl, rfl, by rw [ht]; exact hP, va_K.moved hW.alike hK, hD⟩, hS.F ht⟩) hS.2.2 hd
set_option maxHeartbeats 4000000 in
set_option maxRecDepth 100000 in
theorem kX8_fill {own : String} {cc : ByteArray} {nL idx pc : Nat} {ls : Array Slot} {rest : List Value} {ws wr : va_W} {n : Nat} {a1 : Int32} {r : Int32} {y_mhm : (Int32)} {y_mpi : (Nat → Int64)} (fx : CallFix p m c cc nL s args tw own) (hq : Cond.methodLink own idx yX8_fill ∈ tw) (isC isR : List Nat) (hC : isC.map (fun i => ws[i]?) = ((wdM cJ cI oM oM1 oM2 oM3 oM4 oM5 oM6 oM7 oM8 oM9 oM10 oM11 mw mt mrim mjn mhm mpn mbm mgm mpi mst mam mac mro mbe mhi mmi mgr mtr mle) : va_W).map some) (hRr : isR.map (fun i => ws[i]?) = wr.map some) (hnC : va_nd isC = true) (hn : va_nd isR = true) (hdis : ∀ i ∈ isR, i ∉ isC) (hK : va_K D vwCl [(cI, .int), (cJ, .long)] s) (hm : mX8_fill n mhm mpi mw mt mjn a1 = some (r, y_mhm, y_mpi)) (hsz : ls.size = nL) (hR : 6 ≤ R.frames ∧ 158 ≤ R.locals ∧ cells ≤ R.cells ∧ slots ≤ R.slots) (hst : (rest.map fun v => v.category).sum ≤ 8) (hd : decode cc pc = .ok (.invokevirtual idx, 3)) (hP : va_P D vwCl ws H) (hD : va_D A ws) (hS : va_S A s.heap H locs) (hA : ∀ q, s.heap.size ≤ q → A q) (kk : ∀ (H : Heap) (locs : List Loc), va_P D vwCl (wr ++ (wdM cJ cI oM oM1 oM2 oM3 oM4 oM5 oM6 oM7 oM8 oM9 oM10 oM11 mw mt mrim mjn y_mhm mpn mbm mgm y_mpi mst mam mac mro mbe mhi mmi mgr mtr mle)) H → va_D A (wr ++ (wdM cJ cI oM oM1 oM2 oM3 oM4 oM5 oM6 oM7 oM8 oM9 oM10 oM11 mw mt mrim mjn y_mhm mpn mbm mgm y_mpi mst mam mac mro mbe mhi mmi mgr mtr mle)) → va_S A s.heap H locs → W p l e R s m args below meth c H locs cells slots Q (F0 m (pc + 3) ls (.int r :: rest))) : W p l e R s m args below meth c H locs cells slots Q (F0 m pc ls (.int a1 :: .ref oM :: rest)) := by
  have hPc := va_P.subM hP isC hC
  have hDc := hD.sub isC hnC hC
  have hFc := va_free (wc := (wdM cJ cI oM oM1 oM2 oM3 oM4 oM5 oM6 oM7 oM8 oM9 oM10 oM11 mw mt mrim mjn mhm mpn mbm mgm mpi mst mam mac mro mbe mhi mmi mgr mtr mle)) hD hS hA isC hC
  refine va_calli (va_runV (As := [.int a1]) (rest := rest) fx (tX8_fill l H.size hm) (cwV 1 fx.2.2.2.2 (tw_V hq qw_507 qw_508 qw_53 qw_509) rfl rfl rfl (by decide +kernel) ⟨hR.1, hR.2.1⟩) ⟨wrP_bl, va_recv hK hPc (ci := 8) (q0 := 0) rfl rfl, wrP_ok hPc hK hDc⟩ rfl rfl hsz rfl (lv_room hst) hd ⟨hR.2.2.1, hR.2.2.2⟩) hS (fun q _ h => hFc q h) hFc (fun r9 u t H1 locs ht hvm hw hB hz1 hk1 hS => ?_)
  obtain ⟨hP1, hK1, hD1⟩ := hB
  rw [ht] at hP1
  rw [hw]
  obtain ⟨hP2, hD2⟩ := va_join (wr := wr) (w1 := (wdM cJ cI oM oM1 oM2 oM3 oM4 oM5 oM6 oM7 oM8 oM9 oM10 oM11 mw mt mrim mjn y_mhm mpn mbm mgm y_mpi mst mam mac mro mbe mhi mmi mgr mtr mle)) hP hD isC isR hC hRr hn hdis hk1 hFc hP1 hD1
  exact kk H1 locs hP2 hD2 hS
end
