theorem qw_510 : Cond.fieldLink RX8 39 "WornShapesModel" "behind" "[J" ∈ tw := tw_of (by decide +kernel) rfl
theorem qw_511 : Cond.fieldLink RX8 36 "WornShapesModel" "row" "[I" ∈ tw := tw_of (by decide +kernel) rfl
theorem qw_512 : Cond.methodLink RX8 125 yX8_actOf ∈ tw := tw_of (by decide +kernel) rfl
theorem qw_513 : Cond.instanceMethod yX8_findRow ∈ tw := tw_of (by decide +kernel) rfl
theorem qw_514 : Cond.selects RX8 yX8_findRow yX8_findRow ∈ tw := tw_of (by decide +kernel) rfl
theorem qw_515 : Cond.code yX8_findRow cX8_findRow 7 (some .boolean) ∈ tw := tw_of (by decide +kernel) rfl
theorem qw_516 : Cond.methodLink RX8 129 yX8_findRow ∈ tw := tw_of (by decide +kernel) rfl
theorem qw_517 : Cond.instanceMethod yX8_shortestOf ∈ tw := tw_of (by decide +kernel) rfl
theorem qw_518 : Cond.selects RX8 yX8_shortestOf yX8_shortestOf ∈ tw := tw_of (by decide +kernel) rfl
theorem qw_519 : Cond.code yX8_shortestOf cX8_shortestOf 4 (some .int) ∈ tw := tw_of (by decide +kernel) rfl
theorem qw_520 : Cond.methodLink RX8 133 yX8_shortestOf ∈ tw := tw_of (by decide +kernel) rfl
theorem qw_521 : Cond.instanceMethod yX8_shortest ∈ tw := tw_of (by decide +kernel) rfl
theorem qw_522 : Cond.selects RX8 yX8_shortest yX8_shortest ∈ tw := tw_of (by decide +kernel) rfl
theorem qw_523 : Cond.code yX8_shortest cX8_shortest 3 (some .int) ∈ tw := tw_of (by decide +kernel) rfl
theorem qw_524 : Cond.instanceMethod yX8_step ∈ tw := tw_of (by decide +kernel) rfl
theorem qw_525 : Cond.selects RX8 yX8_step yX8_step ∈ tw := tw_of (by decide +kernel) rfl
theorem qw_526 : Cond.code yX8_step cX8_step 5 (some .int) ∈ tw := tw_of (by decide +kernel) rfl
theorem qw_527 : Cond.fieldLink RX8 169 "WornShapesModel" "boxMany" "I" ∈ tw := tw_of (by decide +kernel) rfl
theorem qw_528 : Cond.fieldLink RX8 172 "WornShapesModel" "greatMany" "I" ∈ tw := tw_of (by decide +kernel) rfl
theorem qw_529 : Cond.methodLink RX8 175 yX8_isWithin ∈ tw := tw_of (by decide +kernel) rfl
theorem qw_530 : Cond.fieldLink RX8 48 "WornShapesModel" "great" "[J" ∈ tw := tw_of (by decide +kernel) rfl
theorem qw_531 : Cond.instanceMethod yX8_layBoxes ∈ tw := tw_of (by decide +kernel) rfl
theorem qw_532 : Cond.selects RX8 yX8_layBoxes yX8_layBoxes ∈ tw := tw_of (by decide +kernel) rfl
theorem qw_533 : Cond.code yX8_layBoxes cX8_layBoxes 7 none ∈ tw := tw_of (by decide +kernel) rfl
theorem qw_534 : Cond.methodLink RX8 178 yX8_layBoxes ∈ tw := tw_of (by decide +kernel) rfl
theorem qw_535 : Cond.instanceMethod yX8_boxes ∈ tw := tw_of (by decide +kernel) rfl
theorem qw_536 : Cond.selects RX8 yX8_boxes yX8_boxes ∈ tw := tw_of (by decide +kernel) rfl
theorem qw_537 : Cond.code yX8_boxes cX8_boxes 3 (some .int) ∈ tw := tw_of (by decide +kernel) rfl
theorem qw_538 : Cond.methodLink RX8 182 yX8_lastOf ∈ tw := tw_of (by decide +kernel) rfl
theorem qw_539 : Cond.instanceMethod yX8_greatest ∈ tw := tw_of (by decide +kernel) rfl
theorem qw_540 : Cond.selects RX8 yX8_greatest yX8_greatest ∈ tw := tw_of (by decide +kernel) rfl
theorem qw_541 : Cond.code yX8_greatest cX8_greatest 6 (some .int) ∈ tw := tw_of (by decide +kernel) rfl
theorem qw_542 : Cond.fieldLink RX8 51 "WornShapesModel" "tried" "[I" ∈ tw := tw_of (by decide +kernel) rfl
theorem qw_543 : Cond.fieldLink RX8 54 "WornShapesModel" "left" "[J" ∈ tw := tw_of (by decide +kernel) rfl
theorem qw_544 : Cond.instanceMethod yX8_isCoveredBy ∈ tw := tw_of (by decide +kernel) rfl
theorem qw_545 : Cond.selects RX8 yX8_isCoveredBy yX8_isCoveredBy ∈ tw := tw_of (by decide +kernel) rfl
theorem qw_546 : Cond.code yX8_isCoveredBy cX8_isCoveredBy 5 (some .boolean) ∈ tw := tw_of (by decide +kernel) rfl
theorem qw_547 : Cond.methodLink RX8 185 yX8_isCoveredBy ∈ tw := tw_of (by decide +kernel) rfl
theorem qw_548 : Cond.instanceMethod yX8_covered ∈ tw := tw_of (by decide +kernel) rfl
theorem qw_549 : Cond.selects RX8 yX8_covered yX8_covered ∈ tw := tw_of (by decide +kernel) rfl
theorem qw_550 : Cond.code yX8_covered cX8_covered 3 (some .int) ∈ tw := tw_of (by decide +kernel) rfl
theorem qw_551 : Cond.instanceMethod yX8_alone ∈ tw := tw_of (by decide +kernel) rfl
theorem qw_552 : Cond.selects RX8 yX8_alone yX8_alone ∈ tw := tw_of (by decide +kernel) rfl
theorem qw_553 : Cond.code yX8_alone cX8_alone 5 (some .int) ∈ tw := tw_of (by decide +kernel) rfl
section
variable {A : Nat → Prop} {p : Program} {l : Launch} {e : Env} {R : Room} {s : State} {m : MethodId} {args : Array Value} {below : List Frame} {meth : Method} {c : Code} {H : Heap} {locs : List Loc} {cells slots : Nat} {Q : State → Prop} {D : va_G} {oF : Nat} {oFr : Nat} {oFs : Nat} {oFc : Nat} {oFw : Nat} {oS : Nat} {oSs : Nat} {oG : Nat} {oGa : Nat} {oQ : Nat} {oQw : Nat} {oI : Nat} {oR : Nat} {oRh : Nat} {oRm : Nat} {oB : Nat} {oBw : Nat} {oX : Nat} {oXp : Nat} {oXg : Nat} {oG0 : Nat} {oGa0 : Nat} {oG1 : Nat} {oGa1 : Nat} {oG2 : Nat} {oGa2 : Nat} {oM : Nat} {oM1 : Nat} {oM2 : Nat} {oM3 : Nat} {oM4 : Nat} {oM5 : Nat} {oM6 : Nat} {oM7 : Nat} {oM8 : Nat} {oM9 : Nat} {oM10 : Nat} {oM11 : Nat} {tS : Nat} {tA : Nat} {cI : ClassId} {cJ : ClassId} {cG : ClassId} {fw : Int32} {fc : Int32} {fwh : Int64} {fbo : Int64} {fra : Nat → Int32} {fco : Nat → Int32} {fro : Nat → Int32} {fst : Nat → Int64} {srim : Int32} {sst : Nat → Int32} {gsz : Int32} {gac : Nat → Int32} {qln : Int32} {qwy : Nat → Int32} {ijn : Int32} {rsz : Int32} {rhi : Nat → Int32} {rmi : Nat → Int32} {bsz : Int32} {bfi : Int32} {bla : Int32} {bar : Int32} {bwi : Nat → Int64} {xpi : Nat → Int64} {gs0 : Int32} {gs1 : Int32} {gs2 : Int32} {ga0 : Nat → Int32} {ga1 : Nat → Int32} {ga2 : Nat → Int32} {mw : Int32} {mt : Int32} {mrim : Int32} {mjn : Int32} {mhm : Int32} {mpn : Int32} {mbm : Int32} {mgm : Int32} {mpi : Nat → Int64} {mbe : Nat → Int64} {mgr : Nat → Int64} {mle : Nat → Int64} {mst : Nat → Int32} {mam : Nat → Int32} {mac : Nat → Int32} {mro : Nat → Int32} {mhi : Nat → Int32} {mmi : Nat → Int32} {mtr : Nat → Int32}
-- X8_findRow
def mX8_findRow_L34 (n : Nat) (mst : Nat → Int32) (mw : Int32) (mt : Int32) (mrim : Int32) (v5 : Int32) (v3 : Int64) : Nat → (Int32) → (Nat → Int32) → (Nat → Int64) → Option (((Nat → Int32) × (Nat → Int64)) ⊕ ((Nat → Int32) × (Nat → Int64)))
  | 0, _, _, _ => none
  | k + 1, v6, mro, mbe => (if v6 < 0 then some (.inr ((mro, mbe))) else gd (ib v6 4) (gd (ib v6 4) (gd (ib v6 4) ((if ((upd mro v6.toNatClampNeg ((mro v6.toNatClampNeg) + (1 : Int32))) v6.toNatClampNeg) = (9 : Int32) then mX8_findRow_L34 n mst mw mt mrim v5 v3 k (v6 + (-1 : Int32)) (upd mro v6.toNatClampNeg ((mro v6.toNatClampNeg) + (1 : Int32))) mbe else gd (ib v6 5) (gd (ib v6 4) (jb (mX8_acted n mst mw mt mrim (mbe v6.toNatClampNeg) (mX8_actOf ((upd mro v6.toNatClampNeg ((mro v6.toNatClampNeg) + (1 : Int32))) v6.toNatClampNeg))) (fun (r13 : Int64) => gd (ib (v6 + (1 : Int32)) 5) ((if v6 = (v5 - (1 : Int32)) then gd (ib v5 5) ((if ((vp_updL mbe (v6 + (1 : Int32)).toNatClampNeg r13) v5.toNatClampNeg) = v3 then some (.inl (((upd mro v6.toNatClampNeg ((mro v6.toNatClampNeg) + (1 : Int32))), (vp_updL mbe (v6 + (1 : Int32)).toNatClampNeg r13)))) else (if (v5 - (1 : Int32)) ≤ v6 then mX8_findRow_L34 n mst mw mt mrim v5 v3 k v6 (upd mro v6.toNatClampNeg ((mro v6.toNatClampNeg) + (1 : Int32))) (vp_updL mbe (v6 + (1 : Int32)).toNatClampNeg r13) else gd (ib (v6 + (1 : Int32)) 4) (mX8_findRow_L34 n mst mw mt mrim v5 v3 k (v6 + (1 : Int32)) (upd (upd mro v6.toNatClampNeg ((mro v6.toNatClampNeg) + (1 : Int32))) (v6 + (1 : Int32)).toNatClampNeg (-1 : Int32)) (vp_updL mbe (v6 + (1 : Int32)).toNatClampNeg r13))))) else (if (v5 - (1 : Int32)) ≤ v6 then mX8_findRow_L34 n mst mw mt mrim v5 v3 k v6 (upd mro v6.toNatClampNeg ((mro v6.toNatClampNeg) + (1 : Int32))) (vp_updL mbe (v6 + (1 : Int32)).toNatClampNeg r13) else gd (ib (v6 + (1 : Int32)) 4) (mX8_findRow_L34 n mst mw mt mrim v5 v3 k (v6 + (1 : Int32)) (upd (upd mro v6.toNatClampNeg ((mro v6.toNatClampNeg) + (1 : Int32))) (v6 + (1 : Int32)).toNatClampNeg (-1 : Int32)) (vp_updL mbe (v6 + (1 : Int32)).toNatClampNeg r13)))))))))))))
def mX8_findRow (n : Nat) (mro : Nat → Int32) (mbe : Nat → Int64) (mst : Nat → Int32) (mw : Int32) (mt : Int32) (mrim : Int32) (a1 : Int64) (a3 : Int64) (a5 : Int32) : Option (Int32 × (Nat → Int32) × (Nat → Int64)) :=
  gd (ib (0 : Int32) 5) ((if a5 = 0 then (if a1 = a3 then (some ((1 : Int32), mro, (vp_updL mbe (0 : Int32).toNatClampNeg a1))) else (some ((0 : Int32), mro, (vp_updL mbe (0 : Int32).toNatClampNeg a1)))) else gd (ib (0 : Int32) 4) (jb (mX8_findRow_L34 n mst mw mt mrim a5 a3 n (0 : Int32) (upd mro (0 : Int32).toNatClampNeg (-1 : Int32)) (vp_updL mbe (0 : Int32).toNatClampNeg a1)) (fun q => el2 q (fun q => pr2 q (fun (y23 : Nat → Int32) (y24 : Nat → Int64) => (some ((1 : Int32), y23, y24)))) (fun q => pr2 q (fun (y25 : Nat → Int32) (y26 : Nat → Int64) => (some ((0 : Int32), y25, y26))))))))
theorem dX8_findRow_0 : decode cX8_findRow 0 = .ok (.aload_n 0, 1) := by decide +kernel
theorem dX8_findRow_1 : decode cX8_findRow 1 = .ok (.getfield 39, 3) := by decide +kernel
theorem dX8_findRow_4 : decode cX8_findRow 4 = .ok (.iconst 0, 1) := by decide +kernel
theorem dX8_findRow_5 : decode cX8_findRow 5 = .ok (.lload_n 1, 1) := by decide +kernel
theorem dX8_findRow_6 : decode cX8_findRow 6 = .ok (.lastore, 1) := by decide +kernel
theorem dX8_findRow_7 : decode cX8_findRow 7 = .ok (.iload 5, 2) := by decide +kernel
theorem dX8_findRow_9 : decode cX8_findRow 9 = .ok (.ifCond .ne 15, 3) := by decide +kernel
theorem dX8_findRow_12 : decode cX8_findRow 12 = .ok (.lload_n 1, 1) := by decide +kernel
theorem dX8_findRow_13 : decode cX8_findRow 13 = .ok (.lload_n 3, 1) := by decide +kernel
theorem dX8_findRow_14 : decode cX8_findRow 14 = .ok (.lcmp, 1) := by decide +kernel
theorem dX8_findRow_15 : decode cX8_findRow 15 = .ok (.ifCond .ne 7, 3) := by decide +kernel
theorem dX8_findRow_18 : decode cX8_findRow 18 = .ok (.iconst 1, 1) := by decide +kernel
theorem dX8_findRow_19 : decode cX8_findRow 19 = .ok (.goto 4, 3) := by decide +kernel
theorem dX8_findRow_22 : decode cX8_findRow 22 = .ok (.iconst 0, 1) := by decide +kernel
theorem dX8_findRow_23 : decode cX8_findRow 23 = .ok (.ireturn, 1) := by decide +kernel
theorem dX8_findRow_24 : decode cX8_findRow 24 = .ok (.iconst 0, 1) := by decide +kernel
theorem dX8_findRow_25 : decode cX8_findRow 25 = .ok (.istore 6, 2) := by decide +kernel
theorem dX8_findRow_27 : decode cX8_findRow 27 = .ok (.aload_n 0, 1) := by decide +kernel
theorem dX8_findRow_28 : decode cX8_findRow 28 = .ok (.getfield 36, 3) := by decide +kernel
theorem dX8_findRow_31 : decode cX8_findRow 31 = .ok (.iconst 0, 1) := by decide +kernel
theorem dX8_findRow_32 : decode cX8_findRow 32 = .ok (.iconst (-1), 1) := by decide +kernel
theorem dX8_findRow_33 : decode cX8_findRow 33 = .ok (.iastore, 1) := by decide +kernel
theorem dX8_findRow_34 : decode cX8_findRow 34 = .ok (.iload 6, 2) := by decide +kernel
theorem dX8_findRow_36 : decode cX8_findRow 36 = .ok (.ifCond .lt 108, 3) := by decide +kernel
theorem dX8_findRow_39 : decode cX8_findRow 39 = .ok (.aload_n 0, 1) := by decide +kernel
theorem dX8_findRow_40 : decode cX8_findRow 40 = .ok (.getfield 36, 3) := by decide +kernel
theorem dX8_findRow_43 : decode cX8_findRow 43 = .ok (.iload 6, 2) := by decide +kernel
theorem dX8_findRow_45 : decode cX8_findRow 45 = .ok (.dup2, 1) := by decide +kernel
theorem dX8_findRow_46 : decode cX8_findRow 46 = .ok (.iaload, 1) := by decide +kernel
theorem dX8_findRow_47 : decode cX8_findRow 47 = .ok (.iconst 1, 1) := by decide +kernel
theorem dX8_findRow_48 : decode cX8_findRow 48 = .ok (.iadd, 1) := by decide +kernel
theorem dX8_findRow_49 : decode cX8_findRow 49 = .ok (.iastore, 1) := by decide +kernel
theorem dX8_findRow_50 : decode cX8_findRow 50 = .ok (.aload_n 0, 1) := by decide +kernel
theorem dX8_findRow_51 : decode cX8_findRow 51 = .ok (.getfield 36, 3) := by decide +kernel
theorem dX8_findRow_54 : decode cX8_findRow 54 = .ok (.iload 6, 2) := by decide +kernel
theorem dX8_findRow_56 : decode cX8_findRow 56 = .ok (.iaload, 1) := by decide +kernel
theorem dX8_findRow_57 : decode cX8_findRow 57 = .ok (.bipush 9, 2) := by decide +kernel
theorem dX8_findRow_59 : decode cX8_findRow 59 = .ok (.if_icmp .ne 9, 3) := by decide +kernel
theorem dX8_findRow_62 : decode cX8_findRow 62 = .ok (.iinc 6 (-1), 3) := by decide +kernel
theorem dX8_findRow_65 : decode cX8_findRow 65 = .ok (.goto (-31), 3) := by decide +kernel
theorem dX8_findRow_68 : decode cX8_findRow 68 = .ok (.aload_n 0, 1) := by decide +kernel
theorem dX8_findRow_69 : decode cX8_findRow 69 = .ok (.getfield 39, 3) := by decide +kernel
theorem dX8_findRow_72 : decode cX8_findRow 72 = .ok (.iload 6, 2) := by decide +kernel
theorem dX8_findRow_74 : decode cX8_findRow 74 = .ok (.iconst 1, 1) := by decide +kernel
theorem dX8_findRow_75 : decode cX8_findRow 75 = .ok (.iadd, 1) := by decide +kernel
theorem dX8_findRow_76 : decode cX8_findRow 76 = .ok (.aload_n 0, 1) := by decide +kernel
theorem dX8_findRow_77 : decode cX8_findRow 77 = .ok (.aload_n 0, 1) := by decide +kernel
theorem dX8_findRow_78 : decode cX8_findRow 78 = .ok (.getfield 39, 3) := by decide +kernel
theorem dX8_findRow_81 : decode cX8_findRow 81 = .ok (.iload 6, 2) := by decide +kernel
theorem dX8_findRow_83 : decode cX8_findRow 83 = .ok (.laload, 1) := by decide +kernel
theorem dX8_findRow_84 : decode cX8_findRow 84 = .ok (.aload_n 0, 1) := by decide +kernel
theorem dX8_findRow_85 : decode cX8_findRow 85 = .ok (.getfield 36, 3) := by decide +kernel
theorem dX8_findRow_88 : decode cX8_findRow 88 = .ok (.iload 6, 2) := by decide +kernel
theorem dX8_findRow_90 : decode cX8_findRow 90 = .ok (.iaload, 1) := by decide +kernel
theorem dX8_findRow_91 : decode cX8_findRow 91 = .ok (.invokestatic 125, 3) := by decide +kernel
theorem dX8_findRow_94 : decode cX8_findRow 94 = .ok (.invokevirtual 116, 3) := by decide +kernel
theorem dX8_findRow_97 : decode cX8_findRow 97 = .ok (.lastore, 1) := by decide +kernel
theorem dX8_findRow_98 : decode cX8_findRow 98 = .ok (.iload 6, 2) := by decide +kernel
theorem dX8_findRow_100 : decode cX8_findRow 100 = .ok (.iload 5, 2) := by decide +kernel
theorem dX8_findRow_102 : decode cX8_findRow 102 = .ok (.iconst 1, 1) := by decide +kernel
theorem dX8_findRow_103 : decode cX8_findRow 103 = .ok (.isub, 1) := by decide +kernel
theorem dX8_findRow_104 : decode cX8_findRow 104 = .ok (.if_icmp .ne 17, 3) := by decide +kernel
theorem dX8_findRow_107 : decode cX8_findRow 107 = .ok (.aload_n 0, 1) := by decide +kernel
theorem dX8_findRow_108 : decode cX8_findRow 108 = .ok (.getfield 39, 3) := by decide +kernel
theorem dX8_findRow_111 : decode cX8_findRow 111 = .ok (.iload 5, 2) := by decide +kernel
theorem dX8_findRow_113 : decode cX8_findRow 113 = .ok (.laload, 1) := by decide +kernel
theorem dX8_findRow_114 : decode cX8_findRow 114 = .ok (.lload_n 3, 1) := by decide +kernel
theorem dX8_findRow_115 : decode cX8_findRow 115 = .ok (.lcmp, 1) := by decide +kernel
theorem dX8_findRow_116 : decode cX8_findRow 116 = .ok (.ifCond .ne 5, 3) := by decide +kernel
theorem dX8_findRow_119 : decode cX8_findRow 119 = .ok (.iconst 1, 1) := by decide +kernel
theorem dX8_findRow_120 : decode cX8_findRow 120 = .ok (.ireturn, 1) := by decide +kernel
theorem dX8_findRow_121 : decode cX8_findRow 121 = .ok (.iload 6, 2) := by decide +kernel
theorem dX8_findRow_123 : decode cX8_findRow 123 = .ok (.iload 5, 2) := by decide +kernel
theorem dX8_findRow_125 : decode cX8_findRow 125 = .ok (.iconst 1, 1) := by decide +kernel
theorem dX8_findRow_126 : decode cX8_findRow 126 = .ok (.isub, 1) := by decide +kernel
theorem dX8_findRow_127 : decode cX8_findRow 127 = .ok (.if_icmp .ge (-93), 3) := by decide +kernel
theorem dX8_findRow_130 : decode cX8_findRow 130 = .ok (.iinc 6 1, 3) := by decide +kernel
theorem dX8_findRow_133 : decode cX8_findRow 133 = .ok (.aload_n 0, 1) := by decide +kernel
theorem dX8_findRow_134 : decode cX8_findRow 134 = .ok (.getfield 36, 3) := by decide +kernel
theorem dX8_findRow_137 : decode cX8_findRow 137 = .ok (.iload 6, 2) := by decide +kernel
theorem dX8_findRow_139 : decode cX8_findRow 139 = .ok (.iconst (-1), 1) := by decide +kernel
theorem dX8_findRow_140 : decode cX8_findRow 140 = .ok (.iastore, 1) := by decide +kernel
theorem dX8_findRow_141 : decode cX8_findRow 141 = .ok (.goto (-107), 3) := by decide +kernel
theorem dX8_findRow_144 : decode cX8_findRow 144 = .ok (.iconst 0, 1) := by decide +kernel
theorem dX8_findRow_145 : decode cX8_findRow 145 = .ok (.ireturn, 1) := by decide +kernel
set_option maxHeartbeats 4000000 in
set_option maxRecDepth 100000 in
theorem wX8_findRow_L34 {n : Nat} {v3 : Int64} {v5 : Int32} (hx : p.tables.exec = Jvm.exec) (hb : c.code = cX8_findRow) (hml : c.maxLocals = 7) (hown : s.vm.findClass RX8 = some m.cls) (hts : ∀ w ∈ tw, w.before args s = true) (hK : va_K D vwCl [(cI, .int), (cJ, .long)] s) (hA : ∀ q, s.heap.size ≤ q → A q) (hR : 4 ≤ R.frames ∧ 102 ≤ R.locals ∧ cells ≤ R.cells ∧ slots ≤ R.slots) : ∀ (k : Nat) (v6 : Int32) (mro : Nat → Int32) (mbe : Nat → Int64) (x : ((Nat → Int32) × (Nat → Int64)) ⊕ ((Nat → Int32) × (Nat → Int64))), mX8_findRow_L34 n mst mw mt mrim v5 v3 k v6 mro mbe = some x → ∀ ls : Array Slot, lv_has ls 7 [(0, .ref oM), (3, .long v3), (5, .int v5), (6, .int v6)] → ∀ (H : Heap) (locs : List Loc), va_P D vwCl (wdM cJ cI oM oM1 oM2 oM3 oM4 oM5 oM6 oM7 oM8 oM9 oM10 oM11 mw mt mrim mjn mhm mpn mbm mgm mpi mst mam mac mro mbe mhi mmi mgr mtr mle) H → va_D A (wdM cJ cI oM oM1 oM2 oM3 oM4 oM5 oM6 oM7 oM8 oM9 oM10 oM11 mw mt mrim mjn mhm mpn mbm mgm mpi mst mam mac mro mbe mhi mmi mgr mtr mle) → va_S A s.heap H locs → (∀ (x_mro : Nat → Int32) (x_mbe : Nat → Int64), x = .inl ((x_mro, x_mbe)) → ∀ ls : Array Slot, lv_has ls 7 [] → ∀ (H : Heap) (locs : List Loc), va_P D vwCl (wdM cJ cI oM oM1 oM2 oM3 oM4 oM5 oM6 oM7 oM8 oM9 oM10 oM11 mw mt mrim mjn mhm mpn mbm mgm mpi mst mam mac x_mro x_mbe mhi mmi mgr mtr mle) H → va_D A (wdM cJ cI oM oM1 oM2 oM3 oM4 oM5 oM6 oM7 oM8 oM9 oM10 oM11 mw mt mrim mjn mhm mpn mbm mgm mpi mst mam mac x_mro x_mbe mhi mmi mgr mtr mle) → va_S A s.heap H locs → W p l e R s m args below meth c H locs cells slots Q (F0 m 119 ls [])) → (∀ (x_mro : Nat → Int32) (x_mbe : Nat → Int64), x = .inr ((x_mro, x_mbe)) → ∀ ls : Array Slot, lv_has ls 7 [] → ∀ (H : Heap) (locs : List Loc), va_P D vwCl (wdM cJ cI oM oM1 oM2 oM3 oM4 oM5 oM6 oM7 oM8 oM9 oM10 oM11 mw mt mrim mjn mhm mpn mbm mgm mpi mst mam mac x_mro x_mbe mhi mmi mgr mtr mle) H → va_D A (wdM cJ cI oM oM1 oM2 oM3 oM4 oM5 oM6 oM7 oM8 oM9 oM10 oM11 mw mt mrim mjn mhm mpn mbm mgm mpi mst mam mac x_mro x_mbe mhi mmi mgr mtr mle) → va_S A s.heap H locs → W p l e R s m args below meth c H locs cells slots Q (F0 m 144 ls [])) → W p l e R s m args below meth c H locs cells slots Q (F0 m 34 ls []) := by
  intro k
  induction k with
  | zero => intro v6 mro mbe x hm; rw [mX8_findRow_L34] at hm; cases hm
  | succ k ih =>
    intro v6 mro mbe x hm ls hl H locs hP hD hS K0 K1
    rw [mX8_findRow_L34] at hm
    refine lv_iload hx hb dX8_findRow_34 (lv_at hl 3 rfl) ?_
    refine lv_if_lt (tgt := 144) hx hb dX8_findRow_36 (by decide) (fun c5 => ?_) (fun c5 => ?_)
    · rw [if_pos c5] at hm
      exact K1 _ _ (Option.some.inj hm).symm ls (lv_sub hl [] rfl) _ _ hP hD hS
    · rw [if_neg c5] at hm
      refine lv_aload_n hx hb dX8_findRow_39 rfl (lv_at hl 0 rfl) ?_
      refine va_get (D := D) (ci := 8) (v := .ref oM5) (C := RX8) (T := TX8) (N := 19) hx hb hts tnX8 hown hK hP 0 rfl rfl 8 (by decide) (hts _ qw_511) (fun _ h9 => h9) rfl dX8_findRow_40 ?_
      refine lv_iload hx hb dX8_findRow_43 (lv_at hl 3 rfl) ?_
      refine lv_dup2_11 hx hb dX8_findRow_45 rfl rfl ?_
      obtain ⟨g6, hm⟩ := gd_out hm
      refine va_iald hx hb hK hP 5 0 rfl rfl g6 dX8_findRow_46 ?_
      refine lv_iconst (v := (1 : Int32)) hx hb dX8_findRow_47 (by decide) ?_
      refine lv_iadd hx hb dX8_findRow_48 ?_
      obtain ⟨g7, hm⟩ := gd_out hm
      refine va_iast hx hb hK hP hD hS 5 0 rfl rfl g7 dX8_findRow_49 (fun H locs hP hD hS => ?_)
      have hP : va_P D vwCl (wdM cJ cI oM oM1 oM2 oM3 oM4 oM5 oM6 oM7 oM8 oM9 oM10 oM11 mw mt mrim mjn mhm mpn mbm mgm mpi mst mam mac (upd mro v6.toNatClampNeg ((mro v6.toNatClampNeg) + (1 : Int32))) mbe mhi mmi mgr mtr mle) H := hP
      have hD : va_D A (wdM cJ cI oM oM1 oM2 oM3 oM4 oM5 oM6 oM7 oM8 oM9 oM10 oM11 mw mt mrim mjn mhm mpn mbm mgm mpi mst mam mac (upd mro v6.toNatClampNeg ((mro v6.toNatClampNeg) + (1 : Int32))) mbe mhi mmi mgr mtr mle) := hD
      refine lv_aload_n hx hb dX8_findRow_50 rfl (lv_at hl 0 rfl) ?_
      refine va_get (D := D) (ci := 8) (v := .ref oM5) (C := RX8) (T := TX8) (N := 19) hx hb hts tnX8 hown hK hP 0 rfl rfl 8 (by decide) (hts _ qw_511) (fun _ h9 => h9) rfl dX8_findRow_51 ?_
      refine lv_iload hx hb dX8_findRow_54 (lv_at hl 3 rfl) ?_
      obtain ⟨g8, hm⟩ := gd_out hm
      refine va_iald hx hb hK hP 5 0 rfl rfl g8 dX8_findRow_56 ?_
      refine lv_bipush (v := (9 : Int32)) hx hb dX8_findRow_57 (by decide) ?_
      refine lv_icmp_ne (tgt := 68) hx hb dX8_findRow_59 (by decide) (fun c9 => ?_) (fun c9 => ?_)
      · rw [if_neg c9] at hm
        refine lv_aload_n hx hb dX8_findRow_68 rfl (lv_at hl 0 rfl) ?_
        refine va_get (D := D) (ci := 8) (v := .ref oM6) (C := RX8) (T := TX8) (N := 19) hx hb hts tnX8 hown hK hP 0 rfl rfl 9 (by decide) (hts _ qw_510) (fun _ h9 => h9) rfl dX8_findRow_69 ?_
        refine lv_iload hx hb dX8_findRow_72 (lv_at hl 3 rfl) ?_
        refine lv_iconst (v := (1 : Int32)) hx hb dX8_findRow_74 (by decide) ?_
        refine lv_iadd hx hb dX8_findRow_75 ?_
        refine lv_aload_n hx hb dX8_findRow_76 rfl (lv_at hl 0 rfl) ?_
        refine lv_aload_n hx hb dX8_findRow_77 rfl (lv_at hl 0 rfl) ?_
        refine va_get (D := D) (ci := 8) (v := .ref oM6) (C := RX8) (T := TX8) (N := 19) hx hb hts tnX8 hown hK hP 0 rfl rfl 9 (by decide) (hts _ qw_510) (fun _ h9 => h9) rfl dX8_findRow_78 ?_
        refine lv_iload hx hb dX8_findRow_81 (lv_at hl 3 rfl) ?_
        obtain ⟨g10, hm⟩ := gd_out hm
        refine va_lald hx hb hK hP 6 1 rfl rfl g10 dX8_findRow_83 ?_
        refine lv_aload_n hx hb dX8_findRow_84 rfl (lv_at hl 0 rfl) ?_
        refine va_get (D := D) (ci := 8) (v := .ref oM5) (C := RX8) (T := TX8) (N := 19) hx hb hts tnX8 hown hK hP 0 rfl rfl 8 (by decide) (hts _ qw_511) (fun _ h9 => h9) rfl dX8_findRow_85 ?_
        refine lv_iload hx hb dX8_findRow_88 (lv_at hl 3 rfl) ?_
        obtain ⟨g11, hm⟩ := gd_out hm
        refine va_iald hx hb hK hP 5 0 rfl rfl g11 dX8_findRow_90 ?_
        refine kX8_actOf ⟨hx, hb, hml, hown, hts⟩ qw_512 hl.1 ⟨Nat.le_trans (by decide) hR.1, Nat.le_trans (by decide) hR.2.1, hR.2.2⟩ (Nat.le_of_ble_eq_true rfl) dX8_findRow_91 ?_
        obtain ⟨r13, h14, hm⟩ := jb_out hm
        refine kX8_acted ⟨hx, hb, hml, hown, hts⟩ qw_111 hP hK h14 hl.1 ⟨Nat.le_trans (by decide) hR.1, Nat.le_trans (by decide) hR.2.1, hR.2.2⟩ (Nat.le_of_ble_eq_true rfl) dX8_findRow_94 ?_
        obtain ⟨g15, hm⟩ := gd_out hm
        refine va_last hx hb hK hP hD hS 6 1 rfl rfl g15 dX8_findRow_97 (fun H locs hP hD hS => ?_)
        have hP : va_P D vwCl (wdM cJ cI oM oM1 oM2 oM3 oM4 oM5 oM6 oM7 oM8 oM9 oM10 oM11 mw mt mrim mjn mhm mpn mbm mgm mpi mst mam mac (upd mro v6.toNatClampNeg ((mro v6.toNatClampNeg) + (1 : Int32))) (vp_updL mbe (v6 + (1 : Int32)).toNatClampNeg r13) mhi mmi mgr mtr mle) H := hP
        have hD : va_D A (wdM cJ cI oM oM1 oM2 oM3 oM4 oM5 oM6 oM7 oM8 oM9 oM10 oM11 mw mt mrim mjn mhm mpn mbm mgm mpi mst mam mac (upd mro v6.toNatClampNeg ((mro v6.toNatClampNeg) + (1 : Int32))) (vp_updL mbe (v6 + (1 : Int32)).toNatClampNeg r13) mhi mmi mgr mtr mle) := hD
        refine lv_iload hx hb dX8_findRow_98 (lv_at hl 3 rfl) ?_
        refine lv_iload hx hb dX8_findRow_100 (lv_at hl 2 rfl) ?_
        refine lv_iconst (v := (1 : Int32)) hx hb dX8_findRow_102 (by decide) ?_
        refine lv_isub hx hb dX8_findRow_103 ?_
        refine lv_icmp_ne (tgt := 121) hx hb dX8_findRow_104 (by decide) (fun c16 => ?_) (fun c16 => ?_)
        · rw [if_neg c16] at hm
          refine lv_iload hx hb dX8_findRow_121 (lv_at hl 3 rfl) ?_
          refine lv_iload hx hb dX8_findRow_123 (lv_at hl 2 rfl) ?_
          refine lv_iconst (v := (1 : Int32)) hx hb dX8_findRow_125 (by decide) ?_
          refine lv_isub hx hb dX8_findRow_126 ?_
          refine lv_icmp_ge (tgt := 34) hx hb dX8_findRow_127 (by decide) (fun c17 => ?_) (fun c17 => ?_)
          · rw [if_pos c17] at hm
            exact ih _ _ _ _ hm ls (lv_sub hl [0, 1, 2, 3] rfl) _ _ hP hD hS K0 K1
          · rw [if_neg c17] at hm
            refine lv_iinc (v := (v6 + (1 : Int32))) (lv' := [(6, .int (v6 + (1 : Int32))), (0, .ref oM), (3, .long v3), (5, .int v5)]) hx hb dX8_findRow_130 hl (k := 3) rfl (by rfl) (by decide) rfl (fun ls hl => ?_)
            refine lv_aload_n hx hb dX8_findRow_133 rfl (lv_at hl 1 rfl) ?_
            refine va_get (D := D) (ci := 8) (v := .ref oM5) (C := RX8) (T := TX8) (N := 19) hx hb hts tnX8 hown hK hP 0 rfl rfl 8 (by decide) (hts _ qw_511) (fun _ h9 => h9) rfl dX8_findRow_134 ?_
            refine lv_iload hx hb dX8_findRow_137 (lv_at hl 0 rfl) ?_
            refine lv_iconst (v := (-1 : Int32)) hx hb dX8_findRow_139 (by decide) ?_
            obtain ⟨g18, hm⟩ := gd_out hm
            refine va_iast hx hb hK hP hD hS 5 0 rfl rfl g18 dX8_findRow_140 (fun H locs hP hD hS => ?_)
            have hP : va_P D vwCl (wdM cJ cI oM oM1 oM2 oM3 oM4 oM5 oM6 oM7 oM8 oM9 oM10 oM11 mw mt mrim mjn mhm mpn mbm mgm mpi mst mam mac (upd (upd mro v6.toNatClampNeg ((mro v6.toNatClampNeg) + (1 : Int32))) (v6 + (1 : Int32)).toNatClampNeg (-1 : Int32)) (vp_updL mbe (v6 + (1 : Int32)).toNatClampNeg r13) mhi mmi mgr mtr mle) H := hP
            have hD : va_D A (wdM cJ cI oM oM1 oM2 oM3 oM4 oM5 oM6 oM7 oM8 oM9 oM10 oM11 mw mt mrim mjn mhm mpn mbm mgm mpi mst mam mac (upd (upd mro v6.toNatClampNeg ((mro v6.toNatClampNeg) + (1 : Int32))) (v6 + (1 : Int32)).toNatClampNeg (-1 : Int32)) (vp_updL mbe (v6 + (1 : Int32)).toNatClampNeg r13) mhi mmi mgr mtr mle) := hD
            refine lv_goto (tgt := 34) hx hb dX8_findRow_141 (by decide) ?_
            exact ih _ _ _ _ hm ls (lv_sub hl [1, 2, 3, 0] rfl) _ _ hP hD hS K0 K1
        · rw [if_pos c16] at hm
          refine lv_aload_n hx hb dX8_findRow_107 rfl (lv_at hl 0 rfl) ?_
          refine va_get (D := D) (ci := 8) (v := .ref oM6) (C := RX8) (T := TX8) (N := 19) hx hb hts tnX8 hown hK hP 0 rfl rfl 9 (by decide) (hts _ qw_510) (fun _ h9 => h9) rfl dX8_findRow_108 ?_
          refine lv_iload hx hb dX8_findRow_111 (lv_at hl 2 rfl) ?_
          obtain ⟨g19, hm⟩ := gd_out hm
          refine va_lald hx hb hK hP 6 1 rfl rfl g19 dX8_findRow_113 ?_
          refine lv_lload_n hx hb dX8_findRow_114 rfl (lv_at hl 1 rfl) ?_
          refine W.lcmp hx hb dX8_findRow_115 ?_
          refine lv_if_ne (tgt := 121) hx hb dX8_findRow_116 (by decide) (fun c20 => ?_) (fun c20 => ?_)
          · have c20 := fun h9 => c20 ((lg_cmp_eq ((vp_updL mbe (v6 + (1 : Int32)).toNatClampNeg r13) v5.toNatClampNeg) v3).mpr h9)
            rw [if_neg c20] at hm
            refine lv_iload hx hb dX8_findRow_121 (lv_at hl 3 rfl) ?_
            refine lv_iload hx hb dX8_findRow_123 (lv_at hl 2 rfl) ?_
            refine lv_iconst (v := (1 : Int32)) hx hb dX8_findRow_125 (by decide) ?_
            refine lv_isub hx hb dX8_findRow_126 ?_
            refine lv_icmp_ge (tgt := 34) hx hb dX8_findRow_127 (by decide) (fun c21 => ?_) (fun c21 => ?_)
            · rw [if_pos c21] at hm
              exact ih _ _ _ _ hm ls (lv_sub hl [0, 1, 2, 3] rfl) _ _ hP hD hS K0 K1
            · rw [if_neg c21] at hm
              refine lv_iinc (v := (v6 + (1 : Int32))) (lv' := [(6, .int (v6 + (1 : Int32))), (0, .ref oM), (3, .long v3), (5, .int v5)]) hx hb dX8_findRow_130 hl (k := 3) rfl (by rfl) (by decide) rfl (fun ls hl => ?_)
              refine lv_aload_n hx hb dX8_findRow_133 rfl (lv_at hl 1 rfl) ?_
              refine va_get (D := D) (ci := 8) (v := .ref oM5) (C := RX8) (T := TX8) (N := 19) hx hb hts tnX8 hown hK hP 0 rfl rfl 8 (by decide) (hts _ qw_511) (fun _ h9 => h9) rfl dX8_findRow_134 ?_
              refine lv_iload hx hb dX8_findRow_137 (lv_at hl 0 rfl) ?_
              refine lv_iconst (v := (-1 : Int32)) hx hb dX8_findRow_139 (by decide) ?_
              obtain ⟨g22, hm⟩ := gd_out hm
              refine va_iast hx hb hK hP hD hS 5 0 rfl rfl g22 dX8_findRow_140 (fun H locs hP hD hS => ?_)
              have hP : va_P D vwCl (wdM cJ cI oM oM1 oM2 oM3 oM4 oM5 oM6 oM7 oM8 oM9 oM10 oM11 mw mt mrim mjn mhm mpn mbm mgm mpi mst mam mac (upd (upd mro v6.toNatClampNeg ((mro v6.toNatClampNeg) + (1 : Int32))) (v6 + (1 : Int32)).toNatClampNeg (-1 : Int32)) (vp_updL mbe (v6 + (1 : Int32)).toNatClampNeg r13) mhi mmi mgr mtr mle) H := hP
              have hD : va_D A (wdM cJ cI oM oM1 oM2 oM3 oM4 oM5 oM6 oM7 oM8 oM9 oM10 oM11 mw mt mrim mjn mhm mpn mbm mgm mpi mst mam mac (upd (upd mro v6.toNatClampNeg ((mro v6.toNatClampNeg) + (1 : Int32))) (v6 + (1 : Int32)).toNatClampNeg (-1 : Int32)) (vp_updL mbe (v6 + (1 : Int32)).toNatClampNeg r13) mhi mmi mgr mtr mle) := hD
              refine lv_goto (tgt := 34) hx hb dX8_findRow_141 (by decide) ?_
              exact ih _ _ _ _ hm ls (lv_sub hl [1, 2, 3, 0] rfl) _ _ hP hD hS K0 K1
          · have c20 := (lg_cmp_eq ((vp_updL mbe (v6 + (1 : Int32)).toNatClampNeg r13) v5.toNatClampNeg) v3).mp c20
            rw [if_pos c20] at hm
            exact K0 _ _ (Option.some.inj hm).symm ls (lv_sub hl [] rfl) _ _ hP hD hS
      · rw [if_pos c9] at hm
        refine lv_iinc (v := (v6 + (-1 : Int32))) (lv' := [(6, .int (v6 + (-1 : Int32))), (0, .ref oM), (3, .long v3), (5, .int v5)]) hx hb dX8_findRow_62 hl (k := 3) rfl (by rfl) (by decide) rfl (fun ls hl => ?_)
        refine lv_goto (tgt := 34) hx hb dX8_findRow_65 (by decide) ?_
        exact ih _ _ _ _ hm ls (lv_sub hl [1, 2, 3, 0] rfl) _ _ hP hD hS K0 K1
set_option maxHeartbeats 4000000 in
set_option maxRecDepth 100000 in
theorem bX8_findRow {n : Nat} {a1 : Int64} {a3 : Int64} {a5 : Int32} {r : Int32} {y_mro : (Nat → Int32)} {y_mbe : (Nat → Int64)} (hx : p.tables.exec = Jvm.exec) (hb : c.code = cX8_findRow) (hml : c.maxLocals = 7) (hown : s.vm.findClass RX8 = some m.cls) (hts : ∀ w ∈ tw, w.before args s = true) (hK : va_K D vwCl [(cI, .int), (cJ, .long)] s) (hA : ∀ q, s.heap.size ≤ q → A q) (hR : 4 ≤ R.frames ∧ 102 ≤ R.locals ∧ cells ≤ R.cells ∧ slots ≤ R.slots) (hm : mX8_findRow n mro mbe mst mw mt mrim a1 a3 a5 = some (r, y_mro, y_mbe)) (ls : Array Slot) (hl : lv_has ls 7 [(0, .ref oM), (1, .long a1), (3, .long a3), (5, .int a5)]) (hP : va_P D vwCl (wdM cJ cI oM oM1 oM2 oM3 oM4 oM5 oM6 oM7 oM8 oM9 oM10 oM11 mw mt mrim mjn mhm mpn mbm mgm mpi mst mam mac mro mbe mhi mmi mgr mtr mle) H) (hD : va_D A (wdM cJ cI oM oM1 oM2 oM3 oM4 oM5 oM6 oM7 oM8 oM9 oM10 oM11 mw mt mrim mjn mhm mpn mbm mgm mpi mst mam mac mro mbe mhi mmi mgr mtr mle)) (hS : va_S A s.heap H locs) (K : ∀ (pc : Nat) (ls : Array Slot) (H : Heap) (locs : List Loc), decode cX8_findRow pc = .ok (.ireturn, 1) → narrow .boolean (.int r) = .int r → va_P D vwCl (wdM cJ cI oM oM1 oM2 oM3 oM4 oM5 oM6 oM7 oM8 oM9 oM10 oM11 mw mt mrim mjn mhm mpn mbm mgm mpi mst mam mac y_mro y_mbe mhi mmi mgr mtr mle) H → va_D A (wdM cJ cI oM oM1 oM2 oM3 oM4 oM5 oM6 oM7 oM8 oM9 oM10 oM11 mw mt mrim mjn mhm mpn mbm mgm mpi mst mam mac y_mro y_mbe mhi mmi mgr mtr mle) → va_S A s.heap H locs → W p l e R s m args below meth c H locs cells slots Q (F0 m pc ls [.int r])) : W p l e R s m args below meth c H locs cells slots Q (F0 m 0 ls []) := by
  unfold mX8_findRow at hm
  refine lv_aload_n hx hb dX8_findRow_0 rfl (lv_at hl 0 rfl) ?_
  refine va_get (D := D) (ci := 8) (v := .ref oM6) (C := RX8) (T := TX8) (N := 19) hx hb hts tnX8 hown hK hP 0 rfl rfl 9 (by decide) (hts _ qw_510) (fun _ h9 => h9) rfl dX8_findRow_1 ?_
  refine lv_iconst (v := (0 : Int32)) hx hb dX8_findRow_4 (by decide) ?_
  refine lv_lload_n hx hb dX8_findRow_5 rfl (lv_at hl 1 rfl) ?_
  obtain ⟨g1, hm⟩ := gd_out hm
  refine va_last hx hb hK hP hD hS 6 1 rfl rfl g1 dX8_findRow_6 (fun H locs hP hD hS => ?_)
  have hP : va_P D vwCl (wdM cJ cI oM oM1 oM2 oM3 oM4 oM5 oM6 oM7 oM8 oM9 oM10 oM11 mw mt mrim mjn mhm mpn mbm mgm mpi mst mam mac mro (vp_updL mbe (0 : Int32).toNatClampNeg a1) mhi mmi mgr mtr mle) H := hP
  have hD : va_D A (wdM cJ cI oM oM1 oM2 oM3 oM4 oM5 oM6 oM7 oM8 oM9 oM10 oM11 mw mt mrim mjn mhm mpn mbm mgm mpi mst mam mac mro (vp_updL mbe (0 : Int32).toNatClampNeg a1) mhi mmi mgr mtr mle) := hD
  refine lv_iload hx hb dX8_findRow_7 (lv_at hl 3 rfl) ?_
  refine lv_if_ne (tgt := 24) hx hb dX8_findRow_9 (by decide) (fun c2 => ?_) (fun c2 => ?_)
  · rw [if_neg c2] at hm
    refine lv_iconst (v := (0 : Int32)) hx hb dX8_findRow_24 (by decide) ?_
    refine lv_istore (lv' := [(6, .int (0 : Int32)), (0, .ref oM), (1, .long a1), (3, .long a3), (5, .int a5)]) hx hb dX8_findRow_25 hl (by decide) rfl (fun ls hl => ?_)
    refine lv_aload_n hx hb dX8_findRow_27 rfl (lv_at hl 1 rfl) ?_
    refine va_get (D := D) (ci := 8) (v := .ref oM5) (C := RX8) (T := TX8) (N := 19) hx hb hts tnX8 hown hK hP 0 rfl rfl 8 (by decide) (hts _ qw_511) (fun _ h9 => h9) rfl dX8_findRow_28 ?_
    refine lv_iconst (v := (0 : Int32)) hx hb dX8_findRow_31 (by decide) ?_
    refine lv_iconst (v := (-1 : Int32)) hx hb dX8_findRow_32 (by decide) ?_
    obtain ⟨g3, hm⟩ := gd_out hm
    refine va_iast hx hb hK hP hD hS 5 0 rfl rfl g3 dX8_findRow_33 (fun H locs hP hD hS => ?_)
    have hP : va_P D vwCl (wdM cJ cI oM oM1 oM2 oM3 oM4 oM5 oM6 oM7 oM8 oM9 oM10 oM11 mw mt mrim mjn mhm mpn mbm mgm mpi mst mam mac (upd mro (0 : Int32).toNatClampNeg (-1 : Int32)) (vp_updL mbe (0 : Int32).toNatClampNeg a1) mhi mmi mgr mtr mle) H := hP
    have hD : va_D A (wdM cJ cI oM oM1 oM2 oM3 oM4 oM5 oM6 oM7 oM8 oM9 oM10 oM11 mw mt mrim mjn mhm mpn mbm mgm mpi mst mam mac (upd mro (0 : Int32).toNatClampNeg (-1 : Int32)) (vp_updL mbe (0 : Int32).toNatClampNeg a1) mhi mmi mgr mtr mle) := hD
    obtain ⟨z28, h27, hm⟩ := jb_out hm
    refine wX8_findRow_L34 hx hb hml hown hts hK hA hR n _ _ _ _ h27 ls (lv_sub hl [1, 3, 4, 0] rfl) _ _ hP hD hS ?_ ?_
    · intro y23 y24 e29 ls hl H locs hP hD hS
      subst e29
      simp only [el2] at hm
      simp only [pr2] at hm
      refine lv_iconst (v := (1 : Int32)) hx hb dX8_findRow_119 (by decide) ?_
      have hm := Option.some.inj hm
      have e9 : r = (1 : Int32) := (congrArg (fun q => q.1) hm).symm
      rw [e9] at K
      have e9 : y_mro = y23 := (congrArg (fun q => q.2.1) hm).symm
      rw [e9] at K
      have e9 : y_mbe = y24 := (congrArg (fun q => q.2.2) hm).symm
      rw [e9] at K
      exact K 120 ls _ _ dX8_findRow_120 rfl hP hD hS
    · intro y25 y26 e30 ls hl H locs hP hD hS
      subst e30
      simp only [el2] at hm
      simp only [pr2] at hm
      refine lv_iconst (v := (0 : Int32)) hx hb dX8_findRow_144 (by decide) ?_
      have hm := Option.some.inj hm
      have e9 : r = (0 : Int32) := (congrArg (fun q => q.1) hm).symm
      rw [e9] at K
      have e9 : y_mro = y25 := (congrArg (fun q => q.2.1) hm).symm
      rw [e9] at K
      have e9 : y_mbe = y26 := (congrArg (fun q => q.2.2) hm).symm
      rw [e9] at K
      exact K 145 ls _ _ dX8_findRow_145 rfl hP hD hS
  · rw [if_pos c2] at hm
    refine lv_lload_n hx hb dX8_findRow_12 rfl (lv_at hl 1 rfl) ?_
    refine lv_lload_n hx hb dX8_findRow_13 rfl (lv_at hl 2 rfl) ?_
    refine W.lcmp hx hb dX8_findRow_14 ?_
    refine lv_if_ne (tgt := 22) hx hb dX8_findRow_15 (by decide) (fun c31 => ?_) (fun c31 => ?_)
    · have c31 := fun h9 => c31 ((lg_cmp_eq a1 a3).mpr h9)
      rw [if_neg c31] at hm
      refine lv_iconst (v := (0 : Int32)) hx hb dX8_findRow_22 (by decide) ?_
      have hm := Option.some.inj hm
      have e9 : r = (0 : Int32) := (congrArg (fun q => q.1) hm).symm
      rw [e9] at K
      have e9 : y_mro = mro := (congrArg (fun q => q.2.1) hm).symm
      rw [e9] at K
      have e9 : y_mbe = (vp_updL mbe (0 : Int32).toNatClampNeg a1) := (congrArg (fun q => q.2.2) hm).symm
      rw [e9] at K
      exact K 23 ls _ _ dX8_findRow_23 rfl hP hD hS
    · have c31 := (lg_cmp_eq a1 a3).mp c31
      rw [if_pos c31] at hm
      refine lv_iconst (v := (1 : Int32)) hx hb dX8_findRow_18 (by decide) ?_
      refine lv_goto (tgt := 23) hx hb dX8_findRow_19 (by decide) ?_
      have hm := Option.some.inj hm
      have e9 : r = (1 : Int32) := (congrArg (fun q => q.1) hm).symm
      rw [e9] at K
      have e9 : y_mro = mro := (congrArg (fun q => q.2.1) hm).symm
      rw [e9] at K
      have e9 : y_mbe = (vp_updL mbe (0 : Int32).toNatClampNeg a1) := (congrArg (fun q => q.2.2) hm).symm
      rw [e9] at K
      exact K 23 ls _ _ dX8_findRow_23 rfl hP hD hS
set_option maxHeartbeats 4000000 in
set_option maxRecDepth 100000 in
theorem tX8_findRow (l : Launch) {D : va_G} (sz : Nat) {n : Nat} {a1 : Int64} {a3 : Int64} {a5 : Int32} {r : Int32} {y_mro : (Nat → Int32)} {y_mbe : (Nat → Int64)} (hm : mX8_findRow n mro mbe mst mw mt mrim a1 a3 a5 = some (r, y_mro, y_mbe)) : Met l yX8_findRow (.code yX8_findRow cX8_findRow 7 (some .boolean) :: tw) ({ frames := 4, cells := 0, slots := 0, locals := 102 } : Room) (wrP D [.ref oM, .long a1, .long a3, .int a5] (wdM cJ cI oM oM1 oM2 oM3 oM4 oM5 oM6 oM7 oM8 oM9 oM10 oM11 mw mt mrim mjn mhm mpn mbm mgm mpi mst mam mac mro mbe mhi mmi mgr mtr mle) [(cI, .int), (cJ, .long)] sz) (va_Qi (fun q (_ : Unit) => q = r ∧ narrow .boolean (.int q) = .int q) (fun (_ : Unit) (t : State) => va_P D vwCl (wdM cJ cI oM oM1 oM2 oM3 oM4 oM5 oM6 oM7 oM8 oM9 oM10 oM11 mw mt mrim mjn mhm mpn mbm mgm mpi mst mam mac y_mro y_mbe mhi mmi mgr mtr mle) t.heap ∧ va_K D vwCl [(cI, .int), (cJ, .long)] t ∧ va_D (va_A (wdM cJ cI oM oM1 oM2 oM3 oM4 oM5 oM6 oM7 oM8 oM9 oM10 oM11 mw mt mrim mjn mhm mpn mbm mgm mpi mst mam mac mro mbe mhi mmi mgr mtr mle) sz) (wdM cJ cI oM oM1 oM2 oM3 oM4 oM5 oM6 oM7 oM8 oM9 oM10 oM11 mw mt mrim mjn mhm mpn mbm mgm mpi mst mam mac y_mro y_mbe mhi mmi mgr mtr mle)) (va_A (wdM cJ cI oM oM1 oM2 oM3 oM4 oM5 oM6 oM7 oM8 oM9 oM10 oM11 mw mt mrim mjn mhm mpn mbm mgm mpi mst mam mac mro mbe mhi mmi mgr mtr mle) sz)) 0 0 (va_A (wdM cJ cI oM oM1 oM2 oM3 oM4 oM5 oM6 oM7 oM8 oM9 oM10 oM11 mw mt mrim mjn mhm mpn mbm mgm mpi mst mam mac mro mbe mhi mmi mgr mtr mle) sz) := by
  refine Met.ofW (cc := cX8_findRow) (maxL := 7) (ret := (some .boolean)) (by decide) rfl ?_
  intro p e s m args below meth c s₁ B hml hv
  obtain ⟨rfl, hsz, hP, hK, hD0⟩ := hv
  have hx := B.exec
  have hb := B.bytes
  have hr := B.returns
  have hts : ∀ w ∈ tw, w.before _ s = true := fun w h => atoms_spec (ws := .code yX8_findRow cX8_findRow 7 (some .boolean) :: tw) B.pre w (List.mem_cons_of_mem _ h)
  have hown : s.vm.findClass RX8 = some m.cls := findClass_of_methodNamed B.named
  have hlocks := B.notSynchronized
  subst hsz
  have hD := hD0.self (sz := s.heap.size)
  have hl := lv_entry ([.ref oM, .long a1, .long a3, .int a5]) (n := 7) (Nat.le_of_ble_eq_true rfl)
  rw [lg_entry_eq]
  generalize (lg_sl ([.ref oM, .long a1, .long a3, .int a5]) ++ List.replicate (7 - (lg_sl ([.ref oM, .long a1, .long a3, .int a5])).length) Slot.unset).toArray = ls at hl ⊢
  refine bX8_findRow hx hb hml hown hts hK (fun q h => Or.inr h) ⟨Nat.le_of_ble_eq_true rfl, Nat.le_of_ble_eq_true rfl, Nat.zero_le _, Nat.zero_le _⟩ hm ls hl hP hD va_S.rf (fun pc ls H locs hd hz hP hD hS => ?_)
  exact W.zret hx hb hr hz (fun t ht hW => ⟨⟨r, (), rfl, ⟨rfl, hz⟩, by rw [ht]; exact hP, va_K.moved hW.alike hK, hD⟩, hS.F ht⟩) hS.2.2 hd
set_option maxHeartbeats 4000000 in
set_option maxRecDepth 100000 in
theorem kX8_findRow {own : String} {cc : ByteArray} {nL idx pc : Nat} {ls : Array Slot} {rest : List Value} {ws wr : va_W} {n : Nat} {a1 : Int64} {a3 : Int64} {a5 : Int32} {r : Int32} {y_mro : (Nat → Int32)} {y_mbe : (Nat → Int64)} (fx : CallFix p m c cc nL s args tw own) (hq : Cond.methodLink own idx yX8_findRow ∈ tw) (isC isR : List Nat) (hC : isC.map (fun i => ws[i]?) = ((wdM cJ cI oM oM1 oM2 oM3 oM4 oM5 oM6 oM7 oM8 oM9 oM10 oM11 mw mt mrim mjn mhm mpn mbm mgm mpi mst mam mac mro mbe mhi mmi mgr mtr mle) : va_W).map some) (hRr : isR.map (fun i => ws[i]?) = wr.map some) (hnC : va_nd isC = true) (hn : va_nd isR = true) (hdis : ∀ i ∈ isR, i ∉ isC) (hK : va_K D vwCl [(cI, .int), (cJ, .long)] s) (hm : mX8_findRow n mro mbe mst mw mt mrim a1 a3 a5 = some (r, y_mro, y_mbe)) (hsz : ls.size = nL) (hR : 5 ≤ R.frames ∧ 128 ≤ R.locals ∧ cells ≤ R.cells ∧ slots ≤ R.slots) (hst : (rest.map fun v => v.category).sum ≤ 8) (hd : decode cc pc = .ok (.invokevirtual idx, 3)) (hP : va_P D vwCl ws H) (hD : va_D A ws) (hS : va_S A s.heap H locs) (hA : ∀ q, s.heap.size ≤ q → A q) (kk : ∀ (H : Heap) (locs : List Loc), va_P D vwCl (wr ++ (wdM cJ cI oM oM1 oM2 oM3 oM4 oM5 oM6 oM7 oM8 oM9 oM10 oM11 mw mt mrim mjn mhm mpn mbm mgm mpi mst mam mac y_mro y_mbe mhi mmi mgr mtr mle)) H → va_D A (wr ++ (wdM cJ cI oM oM1 oM2 oM3 oM4 oM5 oM6 oM7 oM8 oM9 oM10 oM11 mw mt mrim mjn mhm mpn mbm mgm mpi mst mam mac y_mro y_mbe mhi mmi mgr mtr mle)) → va_S A s.heap H locs → W p l e R s m args below meth c H locs cells slots Q (F0 m (pc + 3) ls (.int r :: rest))) : W p l e R s m args below meth c H locs cells slots Q (F0 m pc ls (.int a5 :: .long a3 :: .long a1 :: .ref oM :: rest)) := by
  have hPc := va_P.subM hP isC hC
  have hDc := hD.sub isC hnC hC
  have hFc := va_free (wc := (wdM cJ cI oM oM1 oM2 oM3 oM4 oM5 oM6 oM7 oM8 oM9 oM10 oM11 mw mt mrim mjn mhm mpn mbm mgm mpi mst mam mac mro mbe mhi mmi mgr mtr mle)) hD hS hA isC hC
  refine va_calli (va_runV (As := [.long a1, .long a3, .int a5]) (rest := rest) fx (tX8_findRow l H.size hm) (cwV 3 fx.2.2.2.2 (tw_V hq qw_513 qw_514 qw_53 qw_515) rfl rfl rfl (by decide +kernel) ⟨hR.1, hR.2.1⟩) ⟨wrP_bl, va_recv hK hPc (ci := 8) (q0 := 0) rfl rfl, wrP_ok hPc hK hDc⟩ rfl rfl hsz rfl (lv_room hst) hd ⟨hR.2.2.1, hR.2.2.2⟩) hS (fun q _ h => hFc q h) hFc (fun r9 u t H1 locs ht hvm hw hB hz1 hk1 hS => ?_)
  obtain ⟨hP1, hK1, hD1⟩ := hB
  rw [ht] at hP1
  rw [hw.1]
  obtain ⟨hP2, hD2⟩ := va_join (wr := wr) (w1 := (wdM cJ cI oM oM1 oM2 oM3 oM4 oM5 oM6 oM7 oM8 oM9 oM10 oM11 mw mt mrim mjn mhm mpn mbm mgm mpi mst mam mac y_mro y_mbe mhi mmi mgr mtr mle)) hP hD isC isR hC hRr hn hdis hk1 hFc hP1 hD1
  exact kk H1 locs hP2 hD2 hS
-- X8_shortestOf
def mX8_shortestOf_L2 (n : Nat) (v1 : Int32) (v2 : Int32) (mst : Nat → Int32) (mw : Int32) (mt : Int32) (mrim : Int32) (mpi : Nat → Int64) : Nat → (Int32) → (Nat → Int32) → (Nat → Int64) → Option (((Int32) × (Nat → Int32) × (Nat → Int64)) ⊕ ((Nat → Int32) × (Nat → Int64)))
  | 0, _, _, _ => none
  | k + 1, v3, mro, mbe => (if (5 : Int32) ≤ v3 then some (.inr ((mro, mbe))) else gd (ib v1 5) (gd (ib v2 5) (jb3 (mX8_findRow n mro mbe mst mw mt mrim (mpi v1.toNatClampNeg) (mpi v2.toNatClampNeg) v3) (fun (r7 : Int32) (y8 : Nat → Int32) (y9 : Nat → Int64) => (if r7 = 0 then mX8_shortestOf_L2 n v1 v2 mst mw mt mrim mpi k (v3 + (1 : Int32)) y8 y9 else some (.inl ((v3, y8, y9))))))))
def mX8_shortestOf (n : Nat) (mst : Nat → Int32) (mw : Int32) (mt : Int32) (mrim : Int32) (mpi : Nat → Int64) (mro : Nat → Int32) (mbe : Nat → Int64) (a1 : Int32) (a2 : Int32) : Option (Int32 × (Nat → Int32) × (Nat → Int64)) :=
  jb (mX8_shortestOf_L2 n a1 a2 mst mw mt mrim mpi n (0 : Int32) mro mbe) (fun q => el2 q (fun q => pr3 q (fun (y11 : Int32) (y12 : Nat → Int32) (y13 : Nat → Int64) => (some (y11, y12, y13)))) (fun q => pr2 q (fun (y14 : Nat → Int32) (y15 : Nat → Int64) => (some ((-9 : Int32), y14, y15)))))
theorem dX8_shortestOf_0 : decode cX8_shortestOf 0 = .ok (.iconst 0, 1) := by decide +kernel
theorem dX8_shortestOf_1 : decode cX8_shortestOf 1 = .ok (.istore_n 3, 1) := by decide +kernel
theorem dX8_shortestOf_2 : decode cX8_shortestOf 2 = .ok (.iload_n 3, 1) := by decide +kernel
theorem dX8_shortestOf_3 : decode cX8_shortestOf 3 = .ok (.iconst 5, 1) := by decide +kernel
theorem dX8_shortestOf_4 : decode cX8_shortestOf 4 = .ok (.if_icmp .ge 31, 3) := by decide +kernel
theorem dX8_shortestOf_7 : decode cX8_shortestOf 7 = .ok (.aload_n 0, 1) := by decide +kernel
theorem dX8_shortestOf_8 : decode cX8_shortestOf 8 = .ok (.aload_n 0, 1) := by decide +kernel
theorem dX8_shortestOf_9 : decode cX8_shortestOf 9 = .ok (.getfield 16, 3) := by decide +kernel
theorem dX8_shortestOf_12 : decode cX8_shortestOf 12 = .ok (.iload_n 1, 1) := by decide +kernel
theorem dX8_shortestOf_13 : decode cX8_shortestOf 13 = .ok (.laload, 1) := by decide +kernel
theorem dX8_shortestOf_14 : decode cX8_shortestOf 14 = .ok (.aload_n 0, 1) := by decide +kernel
theorem dX8_shortestOf_15 : decode cX8_shortestOf 15 = .ok (.getfield 16, 3) := by decide +kernel
theorem dX8_shortestOf_18 : decode cX8_shortestOf 18 = .ok (.iload_n 2, 1) := by decide +kernel
theorem dX8_shortestOf_19 : decode cX8_shortestOf 19 = .ok (.laload, 1) := by decide +kernel
theorem dX8_shortestOf_20 : decode cX8_shortestOf 20 = .ok (.iload_n 3, 1) := by decide +kernel
theorem dX8_shortestOf_21 : decode cX8_shortestOf 21 = .ok (.invokevirtual 129, 3) := by decide +kernel
theorem dX8_shortestOf_24 : decode cX8_shortestOf 24 = .ok (.ifCond .eq 5, 3) := by decide +kernel
theorem dX8_shortestOf_27 : decode cX8_shortestOf 27 = .ok (.iload_n 3, 1) := by decide +kernel
theorem dX8_shortestOf_28 : decode cX8_shortestOf 28 = .ok (.ireturn, 1) := by decide +kernel
theorem dX8_shortestOf_29 : decode cX8_shortestOf 29 = .ok (.iinc 3 1, 3) := by decide +kernel
theorem dX8_shortestOf_32 : decode cX8_shortestOf 32 = .ok (.goto (-30), 3) := by decide +kernel
theorem dX8_shortestOf_35 : decode cX8_shortestOf 35 = .ok (.bipush (-9), 2) := by decide +kernel
theorem dX8_shortestOf_37 : decode cX8_shortestOf 37 = .ok (.ireturn, 1) := by decide +kernel
set_option maxHeartbeats 4000000 in
set_option maxRecDepth 100000 in
theorem wX8_shortestOf_L2 {n : Nat} {v1 : Int32} {v2 : Int32} (hx : p.tables.exec = Jvm.exec) (hb : c.code = cX8_shortestOf) (hml : c.maxLocals = 4) (hown : s.vm.findClass RX8 = some m.cls) (hts : ∀ w ∈ tw, w.before args s = true) (hK : va_K D vwCl [(cI, .int), (cJ, .long)] s) (hA : ∀ q, s.heap.size ≤ q → A q) (hR : 5 ≤ R.frames ∧ 128 ≤ R.locals ∧ cells ≤ R.cells ∧ slots ≤ R.slots) : ∀ (k : Nat) (v3 : Int32) (mro : Nat → Int32) (mbe : Nat → Int64) (x : ((Int32) × (Nat → Int32) × (Nat → Int64)) ⊕ ((Nat → Int32) × (Nat → Int64))), mX8_shortestOf_L2 n v1 v2 mst mw mt mrim mpi k v3 mro mbe = some x → ∀ ls : Array Slot, lv_has ls 4 [(0, .ref oM), (1, .int v1), (2, .int v2), (3, .int v3)] → ∀ (H : Heap) (locs : List Loc), va_P D vwCl (wdM cJ cI oM oM1 oM2 oM3 oM4 oM5 oM6 oM7 oM8 oM9 oM10 oM11 mw mt mrim mjn mhm mpn mbm mgm mpi mst mam mac mro mbe mhi mmi mgr mtr mle) H → va_D A (wdM cJ cI oM oM1 oM2 oM3 oM4 oM5 oM6 oM7 oM8 oM9 oM10 oM11 mw mt mrim mjn mhm mpn mbm mgm mpi mst mam mac mro mbe mhi mmi mgr mtr mle) → va_S A s.heap H locs → (∀ (x3 : Int32) (x_mro : Nat → Int32) (x_mbe : Nat → Int64), x = .inl ((x3, x_mro, x_mbe)) → ∀ ls : Array Slot, lv_has ls 4 [(3, .int x3)] → ∀ (H : Heap) (locs : List Loc), va_P D vwCl (wdM cJ cI oM oM1 oM2 oM3 oM4 oM5 oM6 oM7 oM8 oM9 oM10 oM11 mw mt mrim mjn mhm mpn mbm mgm mpi mst mam mac x_mro x_mbe mhi mmi mgr mtr mle) H → va_D A (wdM cJ cI oM oM1 oM2 oM3 oM4 oM5 oM6 oM7 oM8 oM9 oM10 oM11 mw mt mrim mjn mhm mpn mbm mgm mpi mst mam mac x_mro x_mbe mhi mmi mgr mtr mle) → va_S A s.heap H locs → W p l e R s m args below meth c H locs cells slots Q (F0 m 27 ls [])) → (∀ (x_mro : Nat → Int32) (x_mbe : Nat → Int64), x = .inr ((x_mro, x_mbe)) → ∀ ls : Array Slot, lv_has ls 4 [] → ∀ (H : Heap) (locs : List Loc), va_P D vwCl (wdM cJ cI oM oM1 oM2 oM3 oM4 oM5 oM6 oM7 oM8 oM9 oM10 oM11 mw mt mrim mjn mhm mpn mbm mgm mpi mst mam mac x_mro x_mbe mhi mmi mgr mtr mle) H → va_D A (wdM cJ cI oM oM1 oM2 oM3 oM4 oM5 oM6 oM7 oM8 oM9 oM10 oM11 mw mt mrim mjn mhm mpn mbm mgm mpi mst mam mac x_mro x_mbe mhi mmi mgr mtr mle) → va_S A s.heap H locs → W p l e R s m args below meth c H locs cells slots Q (F0 m 35 ls [])) → W p l e R s m args below meth c H locs cells slots Q (F0 m 2 ls []) := by
  intro k
  induction k with
  | zero => intro v3 mro mbe x hm; rw [mX8_shortestOf_L2] at hm; cases hm
  | succ k ih =>
    intro v3 mro mbe x hm ls hl H locs hP hD hS K0 K1
    rw [mX8_shortestOf_L2] at hm
    refine lv_iload_n hx hb dX8_shortestOf_2 rfl (lv_at hl 3 rfl) ?_
    refine lv_iconst (v := (5 : Int32)) hx hb dX8_shortestOf_3 (by decide) ?_
    refine lv_icmp_ge (tgt := 35) hx hb dX8_shortestOf_4 (by decide) (fun c2 => ?_) (fun c2 => ?_)
    · rw [if_pos c2] at hm
      exact K1 _ _ (Option.some.inj hm).symm ls (lv_sub hl [] rfl) _ _ hP hD hS
    · rw [if_neg c2] at hm
      refine lv_aload_n hx hb dX8_shortestOf_7 rfl (lv_at hl 0 rfl) ?_
      refine lv_aload_n hx hb dX8_shortestOf_8 rfl (lv_at hl 0 rfl) ?_
      refine va_get (D := D) (ci := 8) (v := .ref oM1) (C := RX8) (T := TX8) (N := 19) hx hb hts tnX8 hown hK hP 0 rfl rfl 2 (by decide) (hts _ qw_103) (fun _ h9 => h9) rfl dX8_shortestOf_9 ?_
      refine lv_iload_n hx hb dX8_shortestOf_12 rfl (lv_at hl 1 rfl) ?_
      obtain ⟨g3, hm⟩ := gd_out hm
      refine va_lald hx hb hK hP 1 1 rfl rfl g3 dX8_shortestOf_13 ?_
      refine lv_aload_n hx hb dX8_shortestOf_14 rfl (lv_at hl 0 rfl) ?_
      refine va_get (D := D) (ci := 8) (v := .ref oM1) (C := RX8) (T := TX8) (N := 19) hx hb hts tnX8 hown hK hP 0 rfl rfl 2 (by decide) (hts _ qw_103) (fun _ h9 => h9) rfl dX8_shortestOf_15 ?_
      refine lv_iload_n hx hb dX8_shortestOf_18 rfl (lv_at hl 2 rfl) ?_
      obtain ⟨g4, hm⟩ := gd_out hm
      refine va_lald hx hb hK hP 1 1 rfl rfl g4 dX8_shortestOf_19 ?_
      refine lv_iload_n hx hb dX8_shortestOf_20 rfl (lv_at hl 3 rfl) ?_
      obtain ⟨r7, y8, y9, h6, hm⟩ := jb_out3 hm
      refine kX8_findRow (ws := (wdM cJ cI oM oM1 oM2 oM3 oM4 oM5 oM6 oM7 oM8 oM9 oM10 oM11 mw mt mrim mjn mhm mpn mbm mgm mpi mst mam mac mro mbe mhi mmi mgr mtr mle)) (wr := []) ⟨hx, hb, hml, hown, hts⟩ qw_516 [0, 1, 2, 3, 4, 5, 6, 7, 8, 9, 10, 11] [] rfl rfl (by decide) (by decide) (by decide) hK h6 hl.1 ⟨Nat.le_trans (by decide) hR.1, Nat.le_trans (by decide) hR.2.1, hR.2.2⟩ (Nat.le_of_ble_eq_true rfl) dX8_shortestOf_21 hP hD hS hA (fun H locs hP hD hS => ?_)
      have hP : va_P D vwCl (wdM cJ cI oM oM1 oM2 oM3 oM4 oM5 oM6 oM7 oM8 oM9 oM10 oM11 mw mt mrim mjn mhm mpn mbm mgm mpi mst mam mac y8 y9 mhi mmi mgr mtr mle) H := hP.sub [0, 1, 2, 3, 4, 5, 6, 7, 8, 9, 10, 11] rfl
      have hD : va_D A (wdM cJ cI oM oM1 oM2 oM3 oM4 oM5 oM6 oM7 oM8 oM9 oM10 oM11 mw mt mrim mjn mhm mpn mbm mgm mpi mst mam mac y8 y9 mhi mmi mgr mtr mle) := hD.sub [0, 1, 2, 3, 4, 5, 6, 7, 8, 9, 10, 11] (by decide) rfl
      refine lv_if_eq (tgt := 29) hx hb dX8_shortestOf_24 (by decide) (fun c10 => ?_) (fun c10 => ?_)
      · rw [if_pos c10] at hm
        refine lv_iinc (v := (v3 + (1 : Int32))) (lv' := [(3, .int (v3 + (1 : Int32))), (0, .ref oM), (1, .int v1), (2, .int v2)]) hx hb dX8_shortestOf_29 hl (k := 3) rfl (by rfl) (by decide) rfl (fun ls hl => ?_)
        refine lv_goto (tgt := 2) hx hb dX8_shortestOf_32 (by decide) ?_
        exact ih _ _ _ _ hm ls (lv_sub hl [1, 2, 3, 0] rfl) _ _ hP hD hS K0 K1
      · rw [if_neg c10] at hm
        exact K0 _ _ _ (Option.some.inj hm).symm ls (lv_sub hl [3] rfl) _ _ hP hD hS
set_option maxHeartbeats 4000000 in
set_option maxRecDepth 100000 in
theorem bX8_shortestOf {n : Nat} {a1 : Int32} {a2 : Int32} {r : Int32} {y_mro : (Nat → Int32)} {y_mbe : (Nat → Int64)} (hx : p.tables.exec = Jvm.exec) (hb : c.code = cX8_shortestOf) (hml : c.maxLocals = 4) (hown : s.vm.findClass RX8 = some m.cls) (hts : ∀ w ∈ tw, w.before args s = true) (hK : va_K D vwCl [(cI, .int), (cJ, .long)] s) (hA : ∀ q, s.heap.size ≤ q → A q) (hR : 5 ≤ R.frames ∧ 128 ≤ R.locals ∧ cells ≤ R.cells ∧ slots ≤ R.slots) (hm : mX8_shortestOf n mst mw mt mrim mpi mro mbe a1 a2 = some (r, y_mro, y_mbe)) (ls : Array Slot) (hl : lv_has ls 4 [(0, .ref oM), (1, .int a1), (2, .int a2)]) (hP : va_P D vwCl (wdM cJ cI oM oM1 oM2 oM3 oM4 oM5 oM6 oM7 oM8 oM9 oM10 oM11 mw mt mrim mjn mhm mpn mbm mgm mpi mst mam mac mro mbe mhi mmi mgr mtr mle) H) (hD : va_D A (wdM cJ cI oM oM1 oM2 oM3 oM4 oM5 oM6 oM7 oM8 oM9 oM10 oM11 mw mt mrim mjn mhm mpn mbm mgm mpi mst mam mac mro mbe mhi mmi mgr mtr mle)) (hS : va_S A s.heap H locs) (K : ∀ (pc : Nat) (ls : Array Slot) (H : Heap) (locs : List Loc), decode cX8_shortestOf pc = .ok (.ireturn, 1) → va_P D vwCl (wdM cJ cI oM oM1 oM2 oM3 oM4 oM5 oM6 oM7 oM8 oM9 oM10 oM11 mw mt mrim mjn mhm mpn mbm mgm mpi mst mam mac y_mro y_mbe mhi mmi mgr mtr mle) H → va_D A (wdM cJ cI oM oM1 oM2 oM3 oM4 oM5 oM6 oM7 oM8 oM9 oM10 oM11 mw mt mrim mjn mhm mpn mbm mgm mpi mst mam mac y_mro y_mbe mhi mmi mgr mtr mle) → va_S A s.heap H locs → W p l e R s m args below meth c H locs cells slots Q (F0 m pc ls [.int r])) : W p l e R s m args below meth c H locs cells slots Q (F0 m 0 ls []) := by
  unfold mX8_shortestOf at hm
  refine lv_iconst (v := (0 : Int32)) hx hb dX8_shortestOf_0 (by decide) ?_
  refine lv_istore_n (lv' := [(3, .int (0 : Int32)), (0, .ref oM), (1, .int a1), (2, .int a2)]) hx hb dX8_shortestOf_1 rfl hl (by decide) rfl (fun ls hl => ?_)
  obtain ⟨z17, h16, hm⟩ := jb_out hm
  refine wX8_shortestOf_L2 hx hb hml hown hts hK hA hR n _ _ _ _ h16 ls (lv_sub hl [1, 2, 3, 0] rfl) _ _ hP hD hS ?_ ?_
  · intro y11 y12 y13 e18 ls hl H locs hP hD hS
    subst e18
    simp only [el2] at hm
    simp only [pr3] at hm
    refine lv_iload_n hx hb dX8_shortestOf_27 rfl (lv_at hl 0 rfl) ?_
    have hm := Option.some.inj hm
    have e9 : r = y11 := (congrArg (fun q => q.1) hm).symm
    rw [e9] at K
    have e9 : y_mro = y12 := (congrArg (fun q => q.2.1) hm).symm
    rw [e9] at K
    have e9 : y_mbe = y13 := (congrArg (fun q => q.2.2) hm).symm
    rw [e9] at K
    exact K 28 ls _ _ dX8_shortestOf_28 hP hD hS
  · intro y14 y15 e19 ls hl H locs hP hD hS
    subst e19
    simp only [el2] at hm
    simp only [pr2] at hm
    refine lv_bipush (v := (-9 : Int32)) hx hb dX8_shortestOf_35 (by decide) ?_
    have hm := Option.some.inj hm
    have e9 : r = (-9 : Int32) := (congrArg (fun q => q.1) hm).symm
    rw [e9] at K
    have e9 : y_mro = y14 := (congrArg (fun q => q.2.1) hm).symm
    rw [e9] at K
    have e9 : y_mbe = y15 := (congrArg (fun q => q.2.2) hm).symm
    rw [e9] at K
    exact K 37 ls _ _ dX8_shortestOf_37 hP hD hS
set_option maxHeartbeats 4000000 in
set_option maxRecDepth 100000 in
theorem tX8_shortestOf (l : Launch) {D : va_G} (sz : Nat) {n : Nat} {a1 : Int32} {a2 : Int32} {r : Int32} {y_mro : (Nat → Int32)} {y_mbe : (Nat → Int64)} (hm : mX8_shortestOf n mst mw mt mrim mpi mro mbe a1 a2 = some (r, y_mro, y_mbe)) : Met l yX8_shortestOf (.code yX8_shortestOf cX8_shortestOf 4 (some .int) :: tw) ({ frames := 5, cells := 0, slots := 0, locals := 128 } : Room) (wrP D [.ref oM, .int a1, .int a2] (wdM cJ cI oM oM1 oM2 oM3 oM4 oM5 oM6 oM7 oM8 oM9 oM10 oM11 mw mt mrim mjn mhm mpn mbm mgm mpi mst mam mac mro mbe mhi mmi mgr mtr mle) [(cI, .int), (cJ, .long)] sz) (va_Qi (fun q (_ : Unit) => q = r) (fun (_ : Unit) (t : State) => va_P D vwCl (wdM cJ cI oM oM1 oM2 oM3 oM4 oM5 oM6 oM7 oM8 oM9 oM10 oM11 mw mt mrim mjn mhm mpn mbm mgm mpi mst mam mac y_mro y_mbe mhi mmi mgr mtr mle) t.heap ∧ va_K D vwCl [(cI, .int), (cJ, .long)] t ∧ va_D (va_A (wdM cJ cI oM oM1 oM2 oM3 oM4 oM5 oM6 oM7 oM8 oM9 oM10 oM11 mw mt mrim mjn mhm mpn mbm mgm mpi mst mam mac mro mbe mhi mmi mgr mtr mle) sz) (wdM cJ cI oM oM1 oM2 oM3 oM4 oM5 oM6 oM7 oM8 oM9 oM10 oM11 mw mt mrim mjn mhm mpn mbm mgm mpi mst mam mac y_mro y_mbe mhi mmi mgr mtr mle)) (va_A (wdM cJ cI oM oM1 oM2 oM3 oM4 oM5 oM6 oM7 oM8 oM9 oM10 oM11 mw mt mrim mjn mhm mpn mbm mgm mpi mst mam mac mro mbe mhi mmi mgr mtr mle) sz)) 0 0 (va_A (wdM cJ cI oM oM1 oM2 oM3 oM4 oM5 oM6 oM7 oM8 oM9 oM10 oM11 mw mt mrim mjn mhm mpn mbm mgm mpi mst mam mac mro mbe mhi mmi mgr mtr mle) sz) := by
  refine Met.ofW (cc := cX8_shortestOf) (maxL := 4) (ret := (some .int)) (by decide) rfl ?_
  intro p e s m args below meth c s₁ B hml hv
  obtain ⟨rfl, hsz, hP, hK, hD0⟩ := hv
  have hx := B.exec
  have hb := B.bytes
  have hr := B.returns
  have hts : ∀ w ∈ tw, w.before _ s = true := fun w h => atoms_spec (ws := .code yX8_shortestOf cX8_shortestOf 4 (some .int) :: tw) B.pre w (List.mem_cons_of_mem _ h)
  have hown : s.vm.findClass RX8 = some m.cls := findClass_of_methodNamed B.named
  have hlocks := B.notSynchronized
  subst hsz
  have hD := hD0.self (sz := s.heap.size)
  have hl := lv_entry ([.ref oM, .int a1, .int a2]) (n := 4) (Nat.le_of_ble_eq_true rfl)
  rw [lg_entry_eq]
  generalize (lg_sl ([.ref oM, .int a1, .int a2]) ++ List.replicate (4 - (lg_sl ([.ref oM, .int a1, .int a2])).length) Slot.unset).toArray = ls at hl ⊢
  refine bX8_shortestOf hx hb hml hown hts hK (fun q h => Or.inr h) ⟨Nat.le_of_ble_eq_true rfl, Nat.le_of_ble_eq_true rfl, Nat.zero_le _, Nat.zero_le _⟩ hm ls hl hP hD va_S.rf (fun pc ls H locs hd hP hD hS => ?_)
  exact W.iret hx hb hr (fun t ht hW => ⟨⟨r, (), rfl, rfl, by rw [ht]; exact hP, va_K.moved hW.alike hK, hD⟩, hS.F ht⟩) hS.2.2 hd
set_option maxHeartbeats 4000000 in
set_option maxRecDepth 100000 in
theorem kX8_shortestOf {own : String} {cc : ByteArray} {nL idx pc : Nat} {ls : Array Slot} {rest : List Value} {ws wr : va_W} {n : Nat} {a1 : Int32} {a2 : Int32} {r : Int32} {y_mro : (Nat → Int32)} {y_mbe : (Nat → Int64)} (fx : CallFix p m c cc nL s args tw own) (hq : Cond.methodLink own idx yX8_shortestOf ∈ tw) (isC isR : List Nat) (hC : isC.map (fun i => ws[i]?) = ((wdM cJ cI oM oM1 oM2 oM3 oM4 oM5 oM6 oM7 oM8 oM9 oM10 oM11 mw mt mrim mjn mhm mpn mbm mgm mpi mst mam mac mro mbe mhi mmi mgr mtr mle) : va_W).map some) (hRr : isR.map (fun i => ws[i]?) = wr.map some) (hnC : va_nd isC = true) (hn : va_nd isR = true) (hdis : ∀ i ∈ isR, i ∉ isC) (hK : va_K D vwCl [(cI, .int), (cJ, .long)] s) (hm : mX8_shortestOf n mst mw mt mrim mpi mro mbe a1 a2 = some (r, y_mro, y_mbe)) (hsz : ls.size = nL) (hR : 6 ≤ R.frames ∧ 151 ≤ R.locals ∧ cells ≤ R.cells ∧ slots ≤ R.slots) (hst : (rest.map fun v => v.category).sum ≤ 8) (hd : decode cc pc = .ok (.invokevirtual idx, 3)) (hP : va_P D vwCl ws H) (hD : va_D A ws) (hS : va_S A s.heap H locs) (hA : ∀ q, s.heap.size ≤ q → A q) (kk : ∀ (H : Heap) (locs : List Loc), va_P D vwCl (wr ++ (wdM cJ cI oM oM1 oM2 oM3 oM4 oM5 oM6 oM7 oM8 oM9 oM10 oM11 mw mt mrim mjn mhm mpn mbm mgm mpi mst mam mac y_mro y_mbe mhi mmi mgr mtr mle)) H → va_D A (wr ++ (wdM cJ cI oM oM1 oM2 oM3 oM4 oM5 oM6 oM7 oM8 oM9 oM10 oM11 mw mt mrim mjn mhm mpn mbm mgm mpi mst mam mac y_mro y_mbe mhi mmi mgr mtr mle)) → va_S A s.heap H locs → W p l e R s m args below meth c H locs cells slots Q (F0 m (pc + 3) ls (.int r :: rest))) : W p l e R s m args below meth c H locs cells slots Q (F0 m pc ls (.int a2 :: .int a1 :: .ref oM :: rest)) := by
  have hPc := va_P.subM hP isC hC
  have hDc := hD.sub isC hnC hC
  have hFc := va_free (wc := (wdM cJ cI oM oM1 oM2 oM3 oM4 oM5 oM6 oM7 oM8 oM9 oM10 oM11 mw mt mrim mjn mhm mpn mbm mgm mpi mst mam mac mro mbe mhi mmi mgr mtr mle)) hD hS hA isC hC
  refine va_calli (va_runV (As := [.int a1, .int a2]) (rest := rest) fx (tX8_shortestOf l H.size hm) (cwV 2 fx.2.2.2.2 (tw_V hq qw_517 qw_518 qw_53 qw_519) rfl rfl rfl (by decide +kernel) ⟨hR.1, hR.2.1⟩) ⟨wrP_bl, va_recv hK hPc (ci := 8) (q0 := 0) rfl rfl, wrP_ok hPc hK hDc⟩ rfl rfl hsz rfl (lv_room hst) hd ⟨hR.2.2.1, hR.2.2.2⟩) hS (fun q _ h => hFc q h) hFc (fun r9 u t H1 locs ht hvm hw hB hz1 hk1 hS => ?_)
  obtain ⟨hP1, hK1, hD1⟩ := hB
  rw [ht] at hP1
  rw [hw]
  obtain ⟨hP2, hD2⟩ := va_join (wr := wr) (w1 := (wdM cJ cI oM oM1 oM2 oM3 oM4 oM5 oM6 oM7 oM8 oM9 oM10 oM11 mw mt mrim mjn mhm mpn mbm mgm mpi mst mam mac y_mro y_mbe mhi mmi mgr mtr mle)) hP hD isC isR hC hRr hn hdis hk1 hFc hP1 hD1
  exact kk H1 locs hP2 hD2 hS
-- X8_shortest
def mX8_shortest (n : Nat) (mro : Nat → Int32) (mbe : Nat → Int64) (mst : Nat → Int32) (mw : Int32) (mt : Int32) (mrim : Int32) (mpi : Nat → Int64) (a1 : Int32) (a2 : Int32) : Option (Int32 × (Nat → Int32) × (Nat → Int64)) :=
  (if (mX8_isPicture a1) = 0 then (some ((-1 : Int32), mro, mbe)) else (if (mX8_isPicture a2) = 0 then (some ((-1 : Int32), mro, mbe)) else jb3 (mX8_shortestOf n mst mw mt mrim mpi mro mbe a1 a2) (fun (r7 : Int32) (y8 : Nat → Int32) (y9 : Nat → Int64) => (some (r7, y8, y9)))))
theorem dX8_shortest_0 : decode cX8_shortest 0 = .ok (.iload_n 1, 1) := by decide +kernel
theorem dX8_shortest_1 : decode cX8_shortest 1 = .ok (.invokestatic 71, 3) := by decide +kernel
theorem dX8_shortest_4 : decode cX8_shortest 4 = .ok (.ifCond .eq 19, 3) := by decide +kernel
theorem dX8_shortest_7 : decode cX8_shortest 7 = .ok (.iload_n 2, 1) := by decide +kernel
theorem dX8_shortest_8 : decode cX8_shortest 8 = .ok (.invokestatic 71, 3) := by decide +kernel
theorem dX8_shortest_11 : decode cX8_shortest 11 = .ok (.ifCond .eq 12, 3) := by decide +kernel
theorem dX8_shortest_14 : decode cX8_shortest 14 = .ok (.aload_n 0, 1) := by decide +kernel
theorem dX8_shortest_15 : decode cX8_shortest 15 = .ok (.iload_n 1, 1) := by decide +kernel
theorem dX8_shortest_16 : decode cX8_shortest 16 = .ok (.iload_n 2, 1) := by decide +kernel
theorem dX8_shortest_17 : decode cX8_shortest 17 = .ok (.invokevirtual 133, 3) := by decide +kernel
theorem dX8_shortest_20 : decode cX8_shortest 20 = .ok (.goto 4, 3) := by decide +kernel
theorem dX8_shortest_23 : decode cX8_shortest 23 = .ok (.iconst (-1), 1) := by decide +kernel
theorem dX8_shortest_24 : decode cX8_shortest 24 = .ok (.ireturn, 1) := by decide +kernel
set_option maxHeartbeats 4000000 in
set_option maxRecDepth 100000 in
theorem bX8_shortest {n : Nat} {a1 : Int32} {a2 : Int32} {r : Int32} {y_mro : (Nat → Int32)} {y_mbe : (Nat → Int64)} (hx : p.tables.exec = Jvm.exec) (hb : c.code = cX8_shortest) (hml : c.maxLocals = 3) (hown : s.vm.findClass RX8 = some m.cls) (hts : ∀ w ∈ tw, w.before args s = true) (hK : va_K D vwCl [(cI, .int), (cJ, .long)] s) (hA : ∀ q, s.heap.size ≤ q → A q) (hR : 6 ≤ R.frames ∧ 151 ≤ R.locals ∧ cells ≤ R.cells ∧ slots ≤ R.slots) (hm : mX8_shortest n mro mbe mst mw mt mrim mpi a1 a2 = some (r, y_mro, y_mbe)) (ls : Array Slot) (hl : lv_has ls 3 [(0, .ref oM), (1, .int a1), (2, .int a2)]) (hP : va_P D vwCl (wdM cJ cI oM oM1 oM2 oM3 oM4 oM5 oM6 oM7 oM8 oM9 oM10 oM11 mw mt mrim mjn mhm mpn mbm mgm mpi mst mam mac mro mbe mhi mmi mgr mtr mle) H) (hD : va_D A (wdM cJ cI oM oM1 oM2 oM3 oM4 oM5 oM6 oM7 oM8 oM9 oM10 oM11 mw mt mrim mjn mhm mpn mbm mgm mpi mst mam mac mro mbe mhi mmi mgr mtr mle)) (hS : va_S A s.heap H locs) (K : ∀ (pc : Nat) (ls : Array Slot) (H : Heap) (locs : List Loc), decode cX8_shortest pc = .ok (.ireturn, 1) → va_P D vwCl (wdM cJ cI oM oM1 oM2 oM3 oM4 oM5 oM6 oM7 oM8 oM9 oM10 oM11 mw mt mrim mjn mhm mpn mbm mgm mpi mst mam mac y_mro y_mbe mhi mmi mgr mtr mle) H → va_D A (wdM cJ cI oM oM1 oM2 oM3 oM4 oM5 oM6 oM7 oM8 oM9 oM10 oM11 mw mt mrim mjn mhm mpn mbm mgm mpi mst mam mac y_mro y_mbe mhi mmi mgr mtr mle) → va_S A s.heap H locs → W p l e R s m args below meth c H locs cells slots Q (F0 m pc ls [.int r])) : W p l e R s m args below meth c H locs cells slots Q (F0 m 0 ls []) := by
  unfold mX8_shortest at hm
  refine lv_iload_n hx hb dX8_shortest_0 rfl (lv_at hl 1 rfl) ?_
  refine kX8_isPicture ⟨hx, hb, hml, hown, hts⟩ qw_101 hl.1 ⟨Nat.le_trans (by decide) hR.1, Nat.le_trans (by decide) hR.2.1, hR.2.2⟩ (Nat.le_of_ble_eq_true rfl) dX8_shortest_1 ?_
  refine lv_if_eq (tgt := 23) hx hb dX8_shortest_4 (by decide) (fun c2 => ?_) (fun c2 => ?_)
  · rw [if_pos c2] at hm
    refine lv_iconst (v := (-1 : Int32)) hx hb dX8_shortest_23 (by decide) ?_
    have hm := Option.some.inj hm
    have e9 : r = (-1 : Int32) := (congrArg (fun q => q.1) hm).symm
    rw [e9] at K
    have e9 : y_mro = mro := (congrArg (fun q => q.2.1) hm).symm
    rw [e9] at K
    have e9 : y_mbe = mbe := (congrArg (fun q => q.2.2) hm).symm
    rw [e9] at K
    exact K 24 ls _ _ dX8_shortest_24 hP hD hS
  · rw [if_neg c2] at hm
    refine lv_iload_n hx hb dX8_shortest_7 rfl (lv_at hl 2 rfl) ?_
    refine kX8_isPicture ⟨hx, hb, hml, hown, hts⟩ qw_101 hl.1 ⟨Nat.le_trans (by decide) hR.1, Nat.le_trans (by decide) hR.2.1, hR.2.2⟩ (Nat.le_of_ble_eq_true rfl) dX8_shortest_8 ?_
    refine lv_if_eq (tgt := 23) hx hb dX8_shortest_11 (by decide) (fun c4 => ?_) (fun c4 => ?_)
    · rw [if_pos c4] at hm
      refine lv_iconst (v := (-1 : Int32)) hx hb dX8_shortest_23 (by decide) ?_
      have hm := Option.some.inj hm
      have e9 : r = (-1 : Int32) := (congrArg (fun q => q.1) hm).symm
      rw [e9] at K
      have e9 : y_mro = mro := (congrArg (fun q => q.2.1) hm).symm
      rw [e9] at K
      have e9 : y_mbe = mbe := (congrArg (fun q => q.2.2) hm).symm
      rw [e9] at K
      exact K 24 ls _ _ dX8_shortest_24 hP hD hS
    · rw [if_neg c4] at hm
      refine lv_aload_n hx hb dX8_shortest_14 rfl (lv_at hl 0 rfl) ?_
      refine lv_iload_n hx hb dX8_shortest_15 rfl (lv_at hl 1 rfl) ?_
      refine lv_iload_n hx hb dX8_shortest_16 rfl (lv_at hl 2 rfl) ?_
      obtain ⟨r7, y8, y9, h6, hm⟩ := jb_out3 hm
      refine kX8_shortestOf (ws := (wdM cJ cI oM oM1 oM2 oM3 oM4 oM5 oM6 oM7 oM8 oM9 oM10 oM11 mw mt mrim mjn mhm mpn mbm mgm mpi mst mam mac mro mbe mhi mmi mgr mtr mle)) (wr := []) ⟨hx, hb, hml, hown, hts⟩ qw_520 [0, 1, 2, 3, 4, 5, 6, 7, 8, 9, 10, 11] [] rfl rfl (by decide) (by decide) (by decide) hK h6 hl.1 ⟨Nat.le_trans (by decide) hR.1, Nat.le_trans (by decide) hR.2.1, hR.2.2⟩ (Nat.le_of_ble_eq_true rfl) dX8_shortest_17 hP hD hS hA (fun H locs hP hD hS => ?_)
      have hP : va_P D vwCl (wdM cJ cI oM oM1 oM2 oM3 oM4 oM5 oM6 oM7 oM8 oM9 oM10 oM11 mw mt mrim mjn mhm mpn mbm mgm mpi mst mam mac y8 y9 mhi mmi mgr mtr mle) H := hP.sub [0, 1, 2, 3, 4, 5, 6, 7, 8, 9, 10, 11] rfl
      have hD : va_D A (wdM cJ cI oM oM1 oM2 oM3 oM4 oM5 oM6 oM7 oM8 oM9 oM10 oM11 mw mt mrim mjn mhm mpn mbm mgm mpi mst mam mac y8 y9 mhi mmi mgr mtr mle) := hD.sub [0, 1, 2, 3, 4, 5, 6, 7, 8, 9, 10, 11] (by decide) rfl
      refine lv_goto (tgt := 24) hx hb dX8_shortest_20 (by decide) ?_
      have hm := Option.some.inj hm
      have e9 : r = r7 := (congrArg (fun q => q.1) hm).symm
      rw [e9] at K
      have e9 : y_mro = y8 := (congrArg (fun q => q.2.1) hm).symm
      rw [e9] at K
      have e9 : y_mbe = y9 := (congrArg (fun q => q.2.2) hm).symm
      rw [e9] at K
      exact K 24 ls _ _ dX8_shortest_24 hP hD hS
set_option maxHeartbeats 4000000 in
set_option maxRecDepth 100000 in
theorem tX8_shortest (l : Launch) {D : va_G} (sz : Nat) {n : Nat} {a1 : Int32} {a2 : Int32} {r : Int32} {y_mro : (Nat → Int32)} {y_mbe : (Nat → Int64)} (hm : mX8_shortest n mro mbe mst mw mt mrim mpi a1 a2 = some (r, y_mro, y_mbe)) : Met l yX8_shortest (.code yX8_shortest cX8_shortest 3 (some .int) :: tw) ({ frames := 6, cells := 0, slots := 0, locals := 151 } : Room) (wrP D [.ref oM, .int a1, .int a2] (wdM cJ cI oM oM1 oM2 oM3 oM4 oM5 oM6 oM7 oM8 oM9 oM10 oM11 mw mt mrim mjn mhm mpn mbm mgm mpi mst mam mac mro mbe mhi mmi mgr mtr mle) [(cI, .int), (cJ, .long)] sz) (va_Qi (fun q (_ : Unit) => q = r) (fun (_ : Unit) (t : State) => va_P D vwCl (wdM cJ cI oM oM1 oM2 oM3 oM4 oM5 oM6 oM7 oM8 oM9 oM10 oM11 mw mt mrim mjn mhm mpn mbm mgm mpi mst mam mac y_mro y_mbe mhi mmi mgr mtr mle) t.heap ∧ va_K D vwCl [(cI, .int), (cJ, .long)] t ∧ va_D (va_A (wdM cJ cI oM oM1 oM2 oM3 oM4 oM5 oM6 oM7 oM8 oM9 oM10 oM11 mw mt mrim mjn mhm mpn mbm mgm mpi mst mam mac mro mbe mhi mmi mgr mtr mle) sz) (wdM cJ cI oM oM1 oM2 oM3 oM4 oM5 oM6 oM7 oM8 oM9 oM10 oM11 mw mt mrim mjn mhm mpn mbm mgm mpi mst mam mac y_mro y_mbe mhi mmi mgr mtr mle)) (va_A (wdM cJ cI oM oM1 oM2 oM3 oM4 oM5 oM6 oM7 oM8 oM9 oM10 oM11 mw mt mrim mjn mhm mpn mbm mgm mpi mst mam mac mro mbe mhi mmi mgr mtr mle) sz)) 0 0 (va_A (wdM cJ cI oM oM1 oM2 oM3 oM4 oM5 oM6 oM7 oM8 oM9 oM10 oM11 mw mt mrim mjn mhm mpn mbm mgm mpi mst mam mac mro mbe mhi mmi mgr mtr mle) sz) := by
  refine Met.ofW (cc := cX8_shortest) (maxL := 3) (ret := (some .int)) (by decide) rfl ?_
  intro p e s m args below meth c s₁ B hml hv
  obtain ⟨rfl, hsz, hP, hK, hD0⟩ := hv
  have hx := B.exec
  have hb := B.bytes
  have hr := B.returns
  have hts : ∀ w ∈ tw, w.before _ s = true := fun w h => atoms_spec (ws := .code yX8_shortest cX8_shortest 3 (some .int) :: tw) B.pre w (List.mem_cons_of_mem _ h)
  have hown : s.vm.findClass RX8 = some m.cls := findClass_of_methodNamed B.named
  have hlocks := B.notSynchronized
  subst hsz
  have hD := hD0.self (sz := s.heap.size)
  have hl := lv_entry ([.ref oM, .int a1, .int a2]) (n := 3) (Nat.le_of_ble_eq_true rfl)
  rw [lg_entry_eq]
  generalize (lg_sl ([.ref oM, .int a1, .int a2]) ++ List.replicate (3 - (lg_sl ([.ref oM, .int a1, .int a2])).length) Slot.unset).toArray = ls at hl ⊢
  refine bX8_shortest hx hb hml hown hts hK (fun q h => Or.inr h) ⟨Nat.le_of_ble_eq_true rfl, Nat.le_of_ble_eq_true rfl, Nat.zero_le _, Nat.zero_le _⟩ hm ls hl hP hD va_S.rf (fun pc ls H locs hd hP hD hS => ?_)
  exact W.iret hx hb hr (fun t ht hW => ⟨⟨r, (), rfl, rfl, by rw [ht]; exact hP, va_K.moved hW.alike hK, hD⟩, hS.F ht⟩) hS.2.2 hd
set_option maxHeartbeats 4000000 in
set_option maxRecDepth 100000 in
theorem kX8_shortest {own : String} {cc : ByteArray} {nL idx pc : Nat} {ls : Array Slot} {rest : List Value} {ws wr : va_W} {n : Nat} {a1 : Int32} {a2 : Int32} {r : Int32} {y_mro : (Nat → Int32)} {y_mbe : (Nat → Int64)} (fx : CallFix p m c cc nL s args tw own) (hq : Cond.methodLink own idx yX8_shortest ∈ tw) (isC isR : List Nat) (hC : isC.map (fun i => ws[i]?) = ((wdM cJ cI oM oM1 oM2 oM3 oM4 oM5 oM6 oM7 oM8 oM9 oM10 oM11 mw mt mrim mjn mhm mpn mbm mgm mpi mst mam mac mro mbe mhi mmi mgr mtr mle) : va_W).map some) (hRr : isR.map (fun i => ws[i]?) = wr.map some) (hnC : va_nd isC = true) (hn : va_nd isR = true) (hdis : ∀ i ∈ isR, i ∉ isC) (hK : va_K D vwCl [(cI, .int), (cJ, .long)] s) (hm : mX8_shortest n mro mbe mst mw mt mrim mpi a1 a2 = some (r, y_mro, y_mbe)) (hsz : ls.size = nL) (hR : 7 ≤ R.frames ∧ 173 ≤ R.locals ∧ cells ≤ R.cells ∧ slots ≤ R.slots) (hst : (rest.map fun v => v.category).sum ≤ 8) (hd : decode cc pc = .ok (.invokevirtual idx, 3)) (hP : va_P D vwCl ws H) (hD : va_D A ws) (hS : va_S A s.heap H locs) (hA : ∀ q, s.heap.size ≤ q → A q) (kk : ∀ (H : Heap) (locs : List Loc), va_P D vwCl (wr ++ (wdM cJ cI oM oM1 oM2 oM3 oM4 oM5 oM6 oM7 oM8 oM9 oM10 oM11 mw mt mrim mjn mhm mpn mbm mgm mpi mst mam mac y_mro y_mbe mhi mmi mgr mtr mle)) H → va_D A (wr ++ (wdM cJ cI oM oM1 oM2 oM3 oM4 oM5 oM6 oM7 oM8 oM9 oM10 oM11 mw mt mrim mjn mhm mpn mbm mgm mpi mst mam mac y_mro y_mbe mhi mmi mgr mtr mle)) → va_S A s.heap H locs → W p l e R s m args below meth c H locs cells slots Q (F0 m (pc + 3) ls (.int r :: rest))) : W p l e R s m args below meth c H locs cells slots Q (F0 m pc ls (.int a2 :: .int a1 :: .ref oM :: rest)) := by
  have hPc := va_P.subM hP isC hC
  have hDc := hD.sub isC hnC hC
  have hFc := va_free (wc := (wdM cJ cI oM oM1 oM2 oM3 oM4 oM5 oM6 oM7 oM8 oM9 oM10 oM11 mw mt mrim mjn mhm mpn mbm mgm mpi mst mam mac mro mbe mhi mmi mgr mtr mle)) hD hS hA isC hC
  refine va_calli (va_runV (As := [.int a1, .int a2]) (rest := rest) fx (tX8_shortest l H.size hm) (cwV 2 fx.2.2.2.2 (tw_V hq qw_521 qw_522 qw_53 qw_523) rfl rfl rfl (by decide +kernel) ⟨hR.1, hR.2.1⟩) ⟨wrP_bl, va_recv hK hPc (ci := 8) (q0 := 0) rfl rfl, wrP_ok hPc hK hDc⟩ rfl rfl hsz rfl (lv_room hst) hd ⟨hR.2.2.1, hR.2.2.2⟩) hS (fun q _ h => hFc q h) hFc (fun r9 u t H1 locs ht hvm hw hB hz1 hk1 hS => ?_)
  obtain ⟨hP1, hK1, hD1⟩ := hB
  rw [ht] at hP1
  rw [hw]
  obtain ⟨hP2, hD2⟩ := va_join (wr := wr) (w1 := (wdM cJ cI oM oM1 oM2 oM3 oM4 oM5 oM6 oM7 oM8 oM9 oM10 oM11 mw mt mrim mjn mhm mpn mbm mgm mpi mst mam mac y_mro y_mbe mhi mmi mgr mtr mle)) hP hD isC isR hC hRr hn hdis hk1 hFc hP1 hD1
  exact kk H1 locs hP2 hD2 hS
-- X8_step
def mX8_step (n : Nat) (mro : Nat → Int32) (mbe : Nat → Int64) (mst : Nat → Int32) (mw : Int32) (mt : Int32) (mrim : Int32) (mpi : Nat → Int64) (a1 : Int32) (a2 : Int32) (a3 : Int32) : Option (Int32 × (Nat → Int32) × (Nat → Int64)) :=
  (if (mX8_isPicture a1) = 0 then (some ((-1 : Int32), mro, mbe)) else (if (mX8_isPicture a2) = 0 then (some ((-1 : Int32), mro, mbe)) else jb3 (mX8_shortestOf n mst mw mt mrim mpi mro mbe a1 a2) (fun (r7 : Int32) (y8 : Nat → Int32) (y9 : Nat → Int64) => (if (mX8_in ((a3).toInt64) (0 : Int64) (((r7 - (1 : Int32))).toInt64)) = 0 then (some ((-9 : Int32), y8, y9)) else gd (ib a3 4) ((some ((mX8_actOf (y8 a3.toNatClampNeg)), y8, y9)))))))
theorem dX8_step_0 : decode cX8_step 0 = .ok (.iload_n 1, 1) := by decide +kernel
theorem dX8_step_1 : decode cX8_step 1 = .ok (.invokestatic 71, 3) := by decide +kernel
theorem dX8_step_4 : decode cX8_step 4 = .ok (.ifCond .eq 10, 3) := by decide +kernel
theorem dX8_step_7 : decode cX8_step 7 = .ok (.iload_n 2, 1) := by decide +kernel
theorem dX8_step_8 : decode cX8_step 8 = .ok (.invokestatic 71, 3) := by decide +kernel
theorem dX8_step_11 : decode cX8_step 11 = .ok (.ifCond .ne 5, 3) := by decide +kernel
theorem dX8_step_14 : decode cX8_step 14 = .ok (.iconst (-1), 1) := by decide +kernel
theorem dX8_step_15 : decode cX8_step 15 = .ok (.ireturn, 1) := by decide +kernel
theorem dX8_step_16 : decode cX8_step 16 = .ok (.aload_n 0, 1) := by decide +kernel
theorem dX8_step_17 : decode cX8_step 17 = .ok (.iload_n 1, 1) := by decide +kernel
theorem dX8_step_18 : decode cX8_step 18 = .ok (.iload_n 2, 1) := by decide +kernel
theorem dX8_step_19 : decode cX8_step 19 = .ok (.invokevirtual 133, 3) := by decide +kernel
theorem dX8_step_22 : decode cX8_step 22 = .ok (.istore 4, 2) := by decide +kernel
theorem dX8_step_24 : decode cX8_step 24 = .ok (.iload_n 3, 1) := by decide +kernel
theorem dX8_step_25 : decode cX8_step 25 = .ok (.i2l, 1) := by decide +kernel
theorem dX8_step_26 : decode cX8_step 26 = .ok (.lconst 0, 1) := by decide +kernel
theorem dX8_step_27 : decode cX8_step 27 = .ok (.iload 4, 2) := by decide +kernel
theorem dX8_step_29 : decode cX8_step 29 = .ok (.iconst 1, 1) := by decide +kernel
theorem dX8_step_30 : decode cX8_step 30 = .ok (.isub, 1) := by decide +kernel
theorem dX8_step_31 : decode cX8_step 31 = .ok (.i2l, 1) := by decide +kernel
theorem dX8_step_32 : decode cX8_step 32 = .ok (.invokestatic 63, 3) := by decide +kernel
theorem dX8_step_35 : decode cX8_step 35 = .ok (.ifCond .eq 15, 3) := by decide +kernel
theorem dX8_step_38 : decode cX8_step 38 = .ok (.aload_n 0, 1) := by decide +kernel
theorem dX8_step_39 : decode cX8_step 39 = .ok (.getfield 36, 3) := by decide +kernel
theorem dX8_step_42 : decode cX8_step 42 = .ok (.iload_n 3, 1) := by decide +kernel
theorem dX8_step_43 : decode cX8_step 43 = .ok (.iaload, 1) := by decide +kernel
theorem dX8_step_44 : decode cX8_step 44 = .ok (.invokestatic 125, 3) := by decide +kernel
theorem dX8_step_47 : decode cX8_step 47 = .ok (.goto 5, 3) := by decide +kernel
theorem dX8_step_50 : decode cX8_step 50 = .ok (.bipush (-9), 2) := by decide +kernel
theorem dX8_step_52 : decode cX8_step 52 = .ok (.ireturn, 1) := by decide +kernel
set_option maxHeartbeats 4000000 in
set_option maxRecDepth 100000 in
theorem bX8_step {n : Nat} {a1 : Int32} {a2 : Int32} {a3 : Int32} {r : Int32} {y_mro : (Nat → Int32)} {y_mbe : (Nat → Int64)} (hx : p.tables.exec = Jvm.exec) (hb : c.code = cX8_step) (hml : c.maxLocals = 5) (hown : s.vm.findClass RX8 = some m.cls) (hts : ∀ w ∈ tw, w.before args s = true) (hK : va_K D vwCl [(cI, .int), (cJ, .long)] s) (hA : ∀ q, s.heap.size ≤ q → A q) (hR : 6 ≤ R.frames ∧ 151 ≤ R.locals ∧ cells ≤ R.cells ∧ slots ≤ R.slots) (hm : mX8_step n mro mbe mst mw mt mrim mpi a1 a2 a3 = some (r, y_mro, y_mbe)) (ls : Array Slot) (hl : lv_has ls 5 [(0, .ref oM), (1, .int a1), (2, .int a2), (3, .int a3)]) (hP : va_P D vwCl (wdM cJ cI oM oM1 oM2 oM3 oM4 oM5 oM6 oM7 oM8 oM9 oM10 oM11 mw mt mrim mjn mhm mpn mbm mgm mpi mst mam mac mro mbe mhi mmi mgr mtr mle) H) (hD : va_D A (wdM cJ cI oM oM1 oM2 oM3 oM4 oM5 oM6 oM7 oM8 oM9 oM10 oM11 mw mt mrim mjn mhm mpn mbm mgm mpi mst mam mac mro mbe mhi mmi mgr mtr mle)) (hS : va_S A s.heap H locs) (K : ∀ (pc : Nat) (ls : Array Slot) (H : Heap) (locs : List Loc), decode cX8_step pc = .ok (.ireturn, 1) → va_P D vwCl (wdM cJ cI oM oM1 oM2 oM3 oM4 oM5 oM6 oM7 oM8 oM9 oM10 oM11 mw mt mrim mjn mhm mpn mbm mgm mpi mst mam mac y_mro y_mbe mhi mmi mgr mtr mle) H → va_D A (wdM cJ cI oM oM1 oM2 oM3 oM4 oM5 oM6 oM7 oM8 oM9 oM10 oM11 mw mt mrim mjn mhm mpn mbm mgm mpi mst mam mac y_mro y_mbe mhi mmi mgr mtr mle) → va_S A s.heap H locs → W p l e R s m args below meth c H locs cells slots Q (F0 m pc ls [.int r])) : W p l e R s m args below meth c H locs cells slots Q (F0 m 0 ls []) := by
  unfold mX8_step at hm
  refine lv_iload_n hx hb dX8_step_0 rfl (lv_at hl 1 rfl) ?_
  refine kX8_isPicture ⟨hx, hb, hml, hown, hts⟩ qw_101 hl.1 ⟨Nat.le_trans (by decide) hR.1, Nat.le_trans (by decide) hR.2.1, hR.2.2⟩ (Nat.le_of_ble_eq_true rfl) dX8_step_1 ?_
  refine lv_if_eq (tgt := 14) hx hb dX8_step_4 (by decide) (fun c2 => ?_) (fun c2 => ?_)
  · rw [if_pos c2] at hm
    refine lv_iconst (v := (-1 : Int32)) hx hb dX8_step_14 (by decide) ?_
    have hm := Option.some.inj hm
    have e9 : r = (-1 : Int32) := (congrArg (fun q => q.1) hm).symm
    rw [e9] at K
    have e9 : y_mro = mro := (congrArg (fun q => q.2.1) hm).symm
    rw [e9] at K
    have e9 : y_mbe = mbe := (congrArg (fun q => q.2.2) hm).symm
    rw [e9] at K
    exact K 15 ls _ _ dX8_step_15 hP hD hS
  · rw [if_neg c2] at hm
    refine lv_iload_n hx hb dX8_step_7 rfl (lv_at hl 2 rfl) ?_
    refine kX8_isPicture ⟨hx, hb, hml, hown, hts⟩ qw_101 hl.1 ⟨Nat.le_trans (by decide) hR.1, Nat.le_trans (by decide) hR.2.1, hR.2.2⟩ (Nat.le_of_ble_eq_true rfl) dX8_step_8 ?_
    refine lv_if_ne (tgt := 16) hx hb dX8_step_11 (by decide) (fun c4 => ?_) (fun c4 => ?_)
    · rw [if_neg c4] at hm
      refine lv_aload_n hx hb dX8_step_16 rfl (lv_at hl 0 rfl) ?_
      refine lv_iload_n hx hb dX8_step_17 rfl (lv_at hl 1 rfl) ?_
      refine lv_iload_n hx hb dX8_step_18 rfl (lv_at hl 2 rfl) ?_
      obtain ⟨r7, y8, y9, h6, hm⟩ := jb_out3 hm
      refine kX8_shortestOf (ws := (wdM cJ cI oM oM1 oM2 oM3 oM4 oM5 oM6 oM7 oM8 oM9 oM10 oM11 mw mt mrim mjn mhm mpn mbm mgm mpi mst mam mac mro mbe mhi mmi mgr mtr mle)) (wr := []) ⟨hx, hb, hml, hown, hts⟩ qw_520 [0, 1, 2, 3, 4, 5, 6, 7, 8, 9, 10, 11] [] rfl rfl (by decide) (by decide) (by decide) hK h6 hl.1 ⟨Nat.le_trans (by decide) hR.1, Nat.le_trans (by decide) hR.2.1, hR.2.2⟩ (Nat.le_of_ble_eq_true rfl) dX8_step_19 hP hD hS hA (fun H locs hP hD hS => ?_)
      have hP : va_P D vwCl (wdM cJ cI oM oM1 oM2 oM3 oM4 oM5 oM6 oM7 oM8 oM9 oM10 oM11 mw mt mrim mjn mhm mpn mbm mgm mpi mst mam mac y8 y9 mhi mmi mgr mtr mle) H := hP.sub [0, 1, 2, 3, 4, 5, 6, 7, 8, 9, 10, 11] rfl
      have hD : va_D A (wdM cJ cI oM oM1 oM2 oM3 oM4 oM5 oM6 oM7 oM8 oM9 oM10 oM11 mw mt mrim mjn mhm mpn mbm mgm mpi mst mam mac y8 y9 mhi mmi mgr mtr mle) := hD.sub [0, 1, 2, 3, 4, 5, 6, 7, 8, 9, 10, 11] (by decide) rfl
      refine lv_istore (lv' := [(4, .int r7), (0, .ref oM), (1, .int a1), (2, .int a2), (3, .int a3)]) hx hb dX8_step_22 hl (by decide) rfl (fun ls hl => ?_)
      refine lv_iload_n hx hb dX8_step_24 rfl (lv_at hl 4 rfl) ?_
      refine lv_i2l (v := ((a3).toInt64)) hx hb dX8_step_25 rfl ?_
      refine lv_lconst (v := (0 : Int64)) hx hb dX8_step_26 (by decide) ?_
      refine lv_iload hx hb dX8_step_27 (lv_at hl 0 rfl) ?_
      refine lv_iconst (v := (1 : Int32)) hx hb dX8_step_29 (by decide) ?_
      refine lv_isub hx hb dX8_step_30 ?_
      refine lv_i2l (v := (((r7 - (1 : Int32))).toInt64)) hx hb dX8_step_31 rfl ?_
      refine kX8_in ⟨hx, hb, hml, hown, hts⟩ qw_65 hl.1 ⟨Nat.le_trans (by decide) hR.1, Nat.le_trans (by decide) hR.2.1, hR.2.2⟩ (Nat.le_of_ble_eq_true rfl) dX8_step_32 ?_
      refine lv_if_eq (tgt := 50) hx hb dX8_step_35 (by decide) (fun c11 => ?_) (fun c11 => ?_)
      · rw [if_pos c11] at hm
        refine lv_bipush (v := (-9 : Int32)) hx hb dX8_step_50 (by decide) ?_
        have hm := Option.some.inj hm
        have e9 : r = (-9 : Int32) := (congrArg (fun q => q.1) hm).symm
        rw [e9] at K
        have e9 : y_mro = y8 := (congrArg (fun q => q.2.1) hm).symm
        rw [e9] at K
        have e9 : y_mbe = y9 := (congrArg (fun q => q.2.2) hm).symm
        rw [e9] at K
        exact K 52 ls _ _ dX8_step_52 hP hD hS
      · rw [if_neg c11] at hm
        refine lv_aload_n hx hb dX8_step_38 rfl (lv_at hl 1 rfl) ?_
        refine va_get (D := D) (ci := 8) (v := .ref oM5) (C := RX8) (T := TX8) (N := 19) hx hb hts tnX8 hown hK hP 0 rfl rfl 8 (by decide) (hts _ qw_511) (fun _ h9 => h9) rfl dX8_step_39 ?_
        refine lv_iload_n hx hb dX8_step_42 rfl (lv_at hl 4 rfl) ?_
        obtain ⟨g12, hm⟩ := gd_out hm
        refine va_iald hx hb hK hP 5 0 rfl rfl g12 dX8_step_43 ?_
        refine kX8_actOf ⟨hx, hb, hml, hown, hts⟩ qw_512 hl.1 ⟨Nat.le_trans (by decide) hR.1, Nat.le_trans (by decide) hR.2.1, hR.2.2⟩ (Nat.le_of_ble_eq_true rfl) dX8_step_44 ?_
        refine lv_goto (tgt := 52) hx hb dX8_step_47 (by decide) ?_
        have hm := Option.some.inj hm
        have e9 : r = (mX8_actOf (y8 a3.toNatClampNeg)) := (congrArg (fun q => q.1) hm).symm
        rw [e9] at K
        have e9 : y_mro = y8 := (congrArg (fun q => q.2.1) hm).symm
        rw [e9] at K
        have e9 : y_mbe = y9 := (congrArg (fun q => q.2.2) hm).symm
        rw [e9] at K
        exact K 52 ls _ _ dX8_step_52 hP hD hS
    · rw [if_pos c4] at hm
      refine lv_iconst (v := (-1 : Int32)) hx hb dX8_step_14 (by decide) ?_
      have hm := Option.some.inj hm
      have e9 : r = (-1 : Int32) := (congrArg (fun q => q.1) hm).symm
      rw [e9] at K
      have e9 : y_mro = mro := (congrArg (fun q => q.2.1) hm).symm
      rw [e9] at K
      have e9 : y_mbe = mbe := (congrArg (fun q => q.2.2) hm).symm
      rw [e9] at K
      exact K 15 ls _ _ dX8_step_15 hP hD hS
set_option maxHeartbeats 4000000 in
set_option maxRecDepth 100000 in
theorem tX8_step (l : Launch) {D : va_G} (sz : Nat) {n : Nat} {a1 : Int32} {a2 : Int32} {a3 : Int32} {r : Int32} {y_mro : (Nat → Int32)} {y_mbe : (Nat → Int64)} (hm : mX8_step n mro mbe mst mw mt mrim mpi a1 a2 a3 = some (r, y_mro, y_mbe)) : Met l yX8_step (.code yX8_step cX8_step 5 (some .int) :: tw) ({ frames := 6, cells := 0, slots := 0, locals := 151 } : Room) (wrP D [.ref oM, .int a1, .int a2, .int a3] (wdM cJ cI oM oM1 oM2 oM3 oM4 oM5 oM6 oM7 oM8 oM9 oM10 oM11 mw mt mrim mjn mhm mpn mbm mgm mpi mst mam mac mro mbe mhi mmi mgr mtr mle) [(cI, .int), (cJ, .long)] sz) (va_Qi (fun q (_ : Unit) => q = r) (fun (_ : Unit) (t : State) => va_P D vwCl (wdM cJ cI oM oM1 oM2 oM3 oM4 oM5 oM6 oM7 oM8 oM9 oM10 oM11 mw mt mrim mjn mhm mpn mbm mgm mpi mst mam mac y_mro y_mbe mhi mmi mgr mtr mle) t.heap ∧ va_K D vwCl [(cI, .int), (cJ, .long)] t ∧ va_D (va_A (wdM cJ cI oM oM1 oM2 oM3 oM4 oM5 oM6 oM7 oM8 oM9 oM10 oM11 mw mt mrim mjn mhm mpn mbm mgm mpi mst mam mac mro mbe mhi mmi mgr mtr mle) sz) (wdM cJ cI oM oM1 oM2 oM3 oM4 oM5 oM6 oM7 oM8 oM9 oM10 oM11 mw mt mrim mjn mhm mpn mbm mgm mpi mst mam mac y_mro y_mbe mhi mmi mgr mtr mle)) (va_A (wdM cJ cI oM oM1 oM2 oM3 oM4 oM5 oM6 oM7 oM8 oM9 oM10 oM11 mw mt mrim mjn mhm mpn mbm mgm mpi mst mam mac mro mbe mhi mmi mgr mtr mle) sz)) 0 0 (va_A (wdM cJ cI oM oM1 oM2 oM3 oM4 oM5 oM6 oM7 oM8 oM9 oM10 oM11 mw mt mrim mjn mhm mpn mbm mgm mpi mst mam mac mro mbe mhi mmi mgr mtr mle) sz) := by
  refine Met.ofW (cc := cX8_step) (maxL := 5) (ret := (some .int)) (by decide) rfl ?_
  intro p e s m args below meth c s₁ B hml hv
  obtain ⟨rfl, hsz, hP, hK, hD0⟩ := hv
  have hx := B.exec
  have hb := B.bytes
  have hr := B.returns
  have hts : ∀ w ∈ tw, w.before _ s = true := fun w h => atoms_spec (ws := .code yX8_step cX8_step 5 (some .int) :: tw) B.pre w (List.mem_cons_of_mem _ h)
  have hown : s.vm.findClass RX8 = some m.cls := findClass_of_methodNamed B.named
  have hlocks := B.notSynchronized
  subst hsz
  have hD := hD0.self (sz := s.heap.size)
  have hl := lv_entry ([.ref oM, .int a1, .int a2, .int a3]) (n := 5) (Nat.le_of_ble_eq_true rfl)
  rw [lg_entry_eq]
  generalize (lg_sl ([.ref oM, .int a1, .int a2, .int a3]) ++ List.replicate (5 - (lg_sl ([.ref oM, .int a1, .int a2, .int a3])).length) Slot.unset).toArray = ls at hl ⊢
  refine bX8_step hx hb hml hown hts hK (fun q h => Or.inr h) ⟨Nat.le_of_ble_eq_true rfl, Nat.le_of_ble_eq_true rfl, Nat.zero_le _, Nat.zero_le _⟩ hm ls hl hP hD va_S.rf (fun pc ls H locs hd hP hD hS => ?_)
  exact W.iret hx hb hr (fun t ht hW => ⟨⟨r, (), rfl, rfl, by rw [ht]; exact hP, va_K.moved hW.alike hK, hD⟩, hS.F ht⟩) hS.2.2 hd
set_option maxHeartbeats 4000000 in
set_option maxRecDepth 100000 in
theorem kX8_step {own : String} {cc : ByteArray} {nL idx pc : Nat} {ls : Array Slot} {rest : List Value} {ws wr : va_W} {n : Nat} {a1 : Int32} {a2 : Int32} {a3 : Int32} {r : Int32} {y_mro : (Nat → Int32)} {y_mbe : (Nat → Int64)} (fx : CallFix p m c cc nL s args tw own) (hq : Cond.methodLink own idx yX8_step ∈ tw) (isC isR : List Nat) (hC : isC.map (fun i => ws[i]?) = ((wdM cJ cI oM oM1 oM2 oM3 oM4 oM5 oM6 oM7 oM8 oM9 oM10 oM11 mw mt mrim mjn mhm mpn mbm mgm mpi mst mam mac mro mbe mhi mmi mgr mtr mle) : va_W).map some) (hRr : isR.map (fun i => ws[i]?) = wr.map some) (hnC : va_nd isC = true) (hn : va_nd isR = true) (hdis : ∀ i ∈ isR, i ∉ isC) (hK : va_K D vwCl [(cI, .int), (cJ, .long)] s) (hm : mX8_step n mro mbe mst mw mt mrim mpi a1 a2 a3 = some (r, y_mro, y_mbe)) (hsz : ls.size = nL) (hR : 7 ≤ R.frames ∧ 175 ≤ R.locals ∧ cells ≤ R.cells ∧ slots ≤ R.slots) (hst : (rest.map fun v => v.category).sum ≤ 8) (hd : decode cc pc = .ok (.invokevirtual idx, 3)) (hP : va_P D vwCl ws H) (hD : va_D A ws) (hS : va_S A s.heap H locs) (hA : ∀ q, s.heap.size ≤ q → A q) (kk : ∀ (H : Heap) (locs : List Loc), va_P D vwCl (wr ++ (wdM cJ cI oM oM1 oM2 oM3 oM4 oM5 oM6 oM7 oM8 oM9 oM10 oM11 mw mt mrim mjn mhm mpn mbm mgm mpi mst mam mac y_mro y_mbe mhi mmi mgr mtr mle)) H → va_D A (wr ++ (wdM cJ cI oM oM1 oM2 oM3 oM4 oM5 oM6 oM7 oM8 oM9 oM10 oM11 mw mt mrim mjn mhm mpn mbm mgm mpi mst mam mac y_mro y_mbe mhi mmi mgr mtr mle)) → va_S A s.heap H locs → W p l e R s m args below meth c H locs cells slots Q (F0 m (pc + 3) ls (.int r :: rest))) : W p l e R s m args below meth c H locs cells slots Q (F0 m pc ls (.int a3 :: .int a2 :: .int a1 :: .ref oM :: rest)) := by
  have hPc := va_P.subM hP isC hC
  have hDc := hD.sub isC hnC hC
  have hFc := va_free (wc := (wdM cJ cI oM oM1 oM2 oM3 oM4 oM5 oM6 oM7 oM8 oM9 oM10 oM11 mw mt mrim mjn mhm mpn mbm mgm mpi mst mam mac mro mbe mhi mmi mgr mtr mle)) hD hS hA isC hC
  refine va_calli (va_runV (As := [.int a1, .int a2, .int a3]) (rest := rest) fx (tX8_step l H.size hm) (cwV 3 fx.2.2.2.2 (tw_V hq qw_524 qw_525 qw_53 qw_526) rfl rfl rfl (by decide +kernel) ⟨hR.1, hR.2.1⟩) ⟨wrP_bl, va_recv hK hPc (ci := 8) (q0 := 0) rfl rfl, wrP_ok hPc hK hDc⟩ rfl rfl hsz rfl (lv_room hst) hd ⟨hR.2.2.1, hR.2.2.2⟩) hS (fun q _ h => hFc q h) hFc (fun r9 u t H1 locs ht hvm hw hB hz1 hk1 hS => ?_)
  obtain ⟨hP1, hK1, hD1⟩ := hB
  rw [ht] at hP1
  rw [hw]
  obtain ⟨hP2, hD2⟩ := va_join (wr := wr) (w1 := (wdM cJ cI oM oM1 oM2 oM3 oM4 oM5 oM6 oM7 oM8 oM9 oM10 oM11 mw mt mrim mjn mhm mpn mbm mgm mpi mst mam mac y_mro y_mbe mhi mmi mgr mtr mle)) hP hD isC isR hC hRr hn hdis hk1 hFc hP1 hD1
  exact kk H1 locs hP2 hD2 hS
-- X8_layBoxes
def mX8_layBoxes_L12 (n : Nat) (mw : Int32) (mt : Int32) (v1 : Int64) : Nat → (Int32) → (Int32) → (Int32) → (Nat → Int64) → Option ((Int32) × (Int32) × (Nat → Int64))
  | 0, _, _, _, _ => none
  | k + 1, v3, mbm, mgm, mgr => (if ((mX8_cells mw mt) * (mX8_cells mw mt)) ≤ v3 then some ((mbm, mgm, mgr)) else gd (¬ (mX8_cells mw mt) = 0) (gd (¬ (mX8_cells mw mt) = 0) (jb (if (jrem v3 (mX8_cells mw mt)) < (v3 / (mX8_cells mw mt)) then (some ((0 : Int32))) else gd (¬ mw = 0) (gd (¬ mw = 0) ((if (jrem (jrem v3 (mX8_cells mw mt)) mw) < (jrem (v3 / (mX8_cells mw mt)) mw) then (some ((0 : Int32))) else jb (mX8_isAllIn n mw v1 (v3 / (mX8_cells mw mt)) (jrem v3 (mX8_cells mw mt))) (fun (r16 : Int32) => (if r16 = 0 then (some ((0 : Int32))) else (some ((1 : Int32))))))))) (fun (j9 : Int32) => jb3 (if j9 = 0 then (some (mbm, mgm, mgr)) else jb (mX8_isWithin n mw mt v1 (v3 / (mX8_cells mw mt)) (jrem v3 (mX8_cells mw mt))) (fun (r25 : Int32) => (if r25 = 0 then jb (mX8_boxOf n mw (v3 / (mX8_cells mw mt)) (jrem v3 (mX8_cells mw mt))) (fun (r28 : Int64) => gd (ib mgm 800) ((some ((mbm + (1 : Int32)), (mgm + (1 : Int32)), (vp_updL mgr mgm.toNatClampNeg r28))))) else (some ((mbm + (1 : Int32)), mgm, mgr))))) (fun (j19 : Int32) (j20 : Int32) (j21 : Nat → Int64) => mX8_layBoxes_L12 n mw mt v1 k (v3 + (1 : Int32)) j19 j20 j21)))))
def mX8_layBoxes (n : Nat) (mw : Int32) (mt : Int32) (mgr : Nat → Int64) (a1 : Int64) : Option ((Int32) × (Int32) × (Nat → Int64)) :=
  jb3 (mX8_layBoxes_L12 n mw mt a1 n (0 : Int32) (0 : Int32) (0 : Int32) mgr) (fun (y31 : Int32) (y32 : Int32) (y33 : Nat → Int64) => (some (y31, y32, y33)))
theorem dX8_layBoxes_0 : decode cX8_layBoxes 0 = .ok (.aload_n 0, 1) := by decide +kernel
theorem dX8_layBoxes_1 : decode cX8_layBoxes 1 = .ok (.iconst 0, 1) := by decide +kernel
theorem dX8_layBoxes_2 : decode cX8_layBoxes 2 = .ok (.putfield 169, 3) := by decide +kernel
theorem dX8_layBoxes_5 : decode cX8_layBoxes 5 = .ok (.aload_n 0, 1) := by decide +kernel
theorem dX8_layBoxes_6 : decode cX8_layBoxes 6 = .ok (.iconst 0, 1) := by decide +kernel
theorem dX8_layBoxes_7 : decode cX8_layBoxes 7 = .ok (.putfield 172, 3) := by decide +kernel
theorem dX8_layBoxes_10 : decode cX8_layBoxes 10 = .ok (.iconst 0, 1) := by decide +kernel
theorem dX8_layBoxes_11 : decode cX8_layBoxes 11 = .ok (.istore_n 3, 1) := by decide +kernel
theorem dX8_layBoxes_12 : decode cX8_layBoxes 12 = .ok (.iload_n 3, 1) := by decide +kernel
theorem dX8_layBoxes_13 : decode cX8_layBoxes 13 = .ok (.aload_n 0, 1) := by decide +kernel
theorem dX8_layBoxes_14 : decode cX8_layBoxes 14 = .ok (.invokevirtual 57, 3) := by decide +kernel
theorem dX8_layBoxes_17 : decode cX8_layBoxes 17 = .ok (.aload_n 0, 1) := by decide +kernel
theorem dX8_layBoxes_18 : decode cX8_layBoxes 18 = .ok (.invokevirtual 57, 3) := by decide +kernel
theorem dX8_layBoxes_21 : decode cX8_layBoxes 21 = .ok (.imul, 1) := by decide +kernel
theorem dX8_layBoxes_22 : decode cX8_layBoxes 22 = .ok (.if_icmp .ge 122, 3) := by decide +kernel
theorem dX8_layBoxes_25 : decode cX8_layBoxes 25 = .ok (.iload_n 3, 1) := by decide +kernel
theorem dX8_layBoxes_26 : decode cX8_layBoxes 26 = .ok (.aload_n 0, 1) := by decide +kernel
theorem dX8_layBoxes_27 : decode cX8_layBoxes 27 = .ok (.invokevirtual 57, 3) := by decide +kernel
theorem dX8_layBoxes_30 : decode cX8_layBoxes 30 = .ok (.idiv, 1) := by decide +kernel
theorem dX8_layBoxes_31 : decode cX8_layBoxes 31 = .ok (.istore 4, 2) := by decide +kernel
theorem dX8_layBoxes_33 : decode cX8_layBoxes 33 = .ok (.iload_n 3, 1) := by decide +kernel
theorem dX8_layBoxes_34 : decode cX8_layBoxes 34 = .ok (.aload_n 0, 1) := by decide +kernel
theorem dX8_layBoxes_35 : decode cX8_layBoxes 35 = .ok (.invokevirtual 57, 3) := by decide +kernel
theorem dX8_layBoxes_38 : decode cX8_layBoxes 38 = .ok (.irem, 1) := by decide +kernel
theorem dX8_layBoxes_39 : decode cX8_layBoxes 39 = .ok (.istore 5, 2) := by decide +kernel
theorem dX8_layBoxes_41 : decode cX8_layBoxes 41 = .ok (.iload 5, 2) := by decide +kernel
theorem dX8_layBoxes_43 : decode cX8_layBoxes 43 = .ok (.iload 4, 2) := by decide +kernel
theorem dX8_layBoxes_45 : decode cX8_layBoxes 45 = .ok (.if_icmp .lt 36, 3) := by decide +kernel
theorem dX8_layBoxes_48 : decode cX8_layBoxes 48 = .ok (.iload 5, 2) := by decide +kernel
theorem dX8_layBoxes_50 : decode cX8_layBoxes 50 = .ok (.aload_n 0, 1) := by decide +kernel
theorem dX8_layBoxes_51 : decode cX8_layBoxes 51 = .ok (.getfield 7, 3) := by decide +kernel
theorem dX8_layBoxes_54 : decode cX8_layBoxes 54 = .ok (.irem, 1) := by decide +kernel
theorem dX8_layBoxes_55 : decode cX8_layBoxes 55 = .ok (.iload 4, 2) := by decide +kernel
theorem dX8_layBoxes_57 : decode cX8_layBoxes 57 = .ok (.aload_n 0, 1) := by decide +kernel
theorem dX8_layBoxes_58 : decode cX8_layBoxes 58 = .ok (.getfield 7, 3) := by decide +kernel
theorem dX8_layBoxes_61 : decode cX8_layBoxes 61 = .ok (.irem, 1) := by decide +kernel
theorem dX8_layBoxes_62 : decode cX8_layBoxes 62 = .ok (.if_icmp .lt 19, 3) := by decide +kernel
theorem dX8_layBoxes_65 : decode cX8_layBoxes 65 = .ok (.aload_n 0, 1) := by decide +kernel
theorem dX8_layBoxes_66 : decode cX8_layBoxes 66 = .ok (.lload_n 1, 1) := by decide +kernel
theorem dX8_layBoxes_67 : decode cX8_layBoxes 67 = .ok (.iload 4, 2) := by decide +kernel
theorem dX8_layBoxes_69 : decode cX8_layBoxes 69 = .ok (.iload 5, 2) := by decide +kernel
theorem dX8_layBoxes_71 : decode cX8_layBoxes 71 = .ok (.invokevirtual 165, 3) := by decide +kernel
theorem dX8_layBoxes_74 : decode cX8_layBoxes 74 = .ok (.ifCond .eq 7, 3) := by decide +kernel
theorem dX8_layBoxes_77 : decode cX8_layBoxes 77 = .ok (.iconst 1, 1) := by decide +kernel
theorem dX8_layBoxes_78 : decode cX8_layBoxes 78 = .ok (.goto 4, 3) := by decide +kernel
theorem dX8_layBoxes_81 : decode cX8_layBoxes 81 = .ok (.iconst 0, 1) := by decide +kernel
theorem dX8_layBoxes_82 : decode cX8_layBoxes 82 = .ok (.istore 6, 2) := by decide +kernel
theorem dX8_layBoxes_84 : decode cX8_layBoxes 84 = .ok (.iload 6, 2) := by decide +kernel
theorem dX8_layBoxes_86 : decode cX8_layBoxes 86 = .ok (.ifCond .eq 52, 3) := by decide +kernel
theorem dX8_layBoxes_89 : decode cX8_layBoxes 89 = .ok (.aload_n 0, 1) := by decide +kernel
theorem dX8_layBoxes_90 : decode cX8_layBoxes 90 = .ok (.dup, 1) := by decide +kernel
theorem dX8_layBoxes_91 : decode cX8_layBoxes 91 = .ok (.getfield 169, 3) := by decide +kernel
theorem dX8_layBoxes_94 : decode cX8_layBoxes 94 = .ok (.iconst 1, 1) := by decide +kernel
theorem dX8_layBoxes_95 : decode cX8_layBoxes 95 = .ok (.iadd, 1) := by decide +kernel
theorem dX8_layBoxes_96 : decode cX8_layBoxes 96 = .ok (.putfield 169, 3) := by decide +kernel
theorem dX8_layBoxes_99 : decode cX8_layBoxes 99 = .ok (.aload_n 0, 1) := by decide +kernel
theorem dX8_layBoxes_100 : decode cX8_layBoxes 100 = .ok (.lload_n 1, 1) := by decide +kernel
theorem dX8_layBoxes_101 : decode cX8_layBoxes 101 = .ok (.iload 4, 2) := by decide +kernel
theorem dX8_layBoxes_103 : decode cX8_layBoxes 103 = .ok (.iload 5, 2) := by decide +kernel
theorem dX8_layBoxes_105 : decode cX8_layBoxes 105 = .ok (.invokevirtual 175, 3) := by decide +kernel
theorem dX8_layBoxes_108 : decode cX8_layBoxes 108 = .ok (.ifCond .ne 30, 3) := by decide +kernel
theorem dX8_layBoxes_111 : decode cX8_layBoxes 111 = .ok (.aload_n 0, 1) := by decide +kernel
theorem dX8_layBoxes_112 : decode cX8_layBoxes 112 = .ok (.getfield 48, 3) := by decide +kernel
theorem dX8_layBoxes_115 : decode cX8_layBoxes 115 = .ok (.aload_n 0, 1) := by decide +kernel
theorem dX8_layBoxes_116 : decode cX8_layBoxes 116 = .ok (.getfield 172, 3) := by decide +kernel
theorem dX8_layBoxes_119 : decode cX8_layBoxes 119 = .ok (.aload_n 0, 1) := by decide +kernel
theorem dX8_layBoxes_120 : decode cX8_layBoxes 120 = .ok (.iload 4, 2) := by decide +kernel
theorem dX8_layBoxes_122 : decode cX8_layBoxes 122 = .ok (.iload 5, 2) := by decide +kernel
theorem dX8_layBoxes_124 : decode cX8_layBoxes 124 = .ok (.invokevirtual 84, 3) := by decide +kernel
theorem dX8_layBoxes_127 : decode cX8_layBoxes 127 = .ok (.lastore, 1) := by decide +kernel
theorem dX8_layBoxes_128 : decode cX8_layBoxes 128 = .ok (.aload_n 0, 1) := by decide +kernel
theorem dX8_layBoxes_129 : decode cX8_layBoxes 129 = .ok (.dup, 1) := by decide +kernel
theorem dX8_layBoxes_130 : decode cX8_layBoxes 130 = .ok (.getfield 172, 3) := by decide +kernel
theorem dX8_layBoxes_133 : decode cX8_layBoxes 133 = .ok (.iconst 1, 1) := by decide +kernel
theorem dX8_layBoxes_134 : decode cX8_layBoxes 134 = .ok (.iadd, 1) := by decide +kernel
theorem dX8_layBoxes_135 : decode cX8_layBoxes 135 = .ok (.putfield 172, 3) := by decide +kernel
theorem dX8_layBoxes_138 : decode cX8_layBoxes 138 = .ok (.iinc 3 1, 3) := by decide +kernel
theorem dX8_layBoxes_141 : decode cX8_layBoxes 141 = .ok (.goto (-129), 3) := by decide +kernel
theorem dX8_layBoxes_144 : decode cX8_layBoxes 144 = .ok (.return_, 1) := by decide +kernel
set_option maxHeartbeats 4000000 in
set_option maxRecDepth 100000 in
theorem wX8_layBoxes_L12 {n : Nat} {v1 : Int64} (hx : p.tables.exec = Jvm.exec) (hb : c.code = cX8_layBoxes) (hml : c.maxLocals = 7) (hown : s.vm.findClass RX8 = some m.cls) (hts : ∀ w ∈ tw, w.before args s = true) (hK : va_K D vwCl [(cI, .int), (cJ, .long)] s) (hA : ∀ q, s.heap.size ≤ q → A q) (hR : 4 ≤ R.frames ∧ 108 ≤ R.locals ∧ cells ≤ R.cells ∧ slots ≤ R.slots) : ∀ (k : Nat) (v3 : Int32) (mbm : Int32) (mgm : Int32) (mgr : Nat → Int64) (x_mbm : Int32) (x_mgm : Int32) (x_mgr : Nat → Int64), mX8_layBoxes_L12 n mw mt v1 k v3 mbm mgm mgr = some (x_mbm, x_mgm, x_mgr) → ∀ ls : Array Slot, lv_has ls 7 [(0, .ref oM), (1, .long v1), (3, .int v3)] → ∀ (H : Heap) (locs : List Loc), va_P D vwCl (wdM cJ cI oM oM1 oM2 oM3 oM4 oM5 oM6 oM7 oM8 oM9 oM10 oM11 mw mt mrim mjn mhm mpn mbm mgm mpi mst mam mac mro mbe mhi mmi mgr mtr mle) H → va_D A (wdM cJ cI oM oM1 oM2 oM3 oM4 oM5 oM6 oM7 oM8 oM9 oM10 oM11 mw mt mrim mjn mhm mpn mbm mgm mpi mst mam mac mro mbe mhi mmi mgr mtr mle) → va_S A s.heap H locs → (∀ ls : Array Slot, lv_has ls 7 [] → ∀ (H : Heap) (locs : List Loc), va_P D vwCl (wdM cJ cI oM oM1 oM2 oM3 oM4 oM5 oM6 oM7 oM8 oM9 oM10 oM11 mw mt mrim mjn mhm mpn x_mbm x_mgm mpi mst mam mac mro mbe mhi mmi x_mgr mtr mle) H → va_D A (wdM cJ cI oM oM1 oM2 oM3 oM4 oM5 oM6 oM7 oM8 oM9 oM10 oM11 mw mt mrim mjn mhm mpn x_mbm x_mgm mpi mst mam mac mro mbe mhi mmi x_mgr mtr mle) → va_S A s.heap H locs → W p l e R s m args below meth c H locs cells slots Q (F0 m 144 ls [])) → W p l e R s m args below meth c H locs cells slots Q (F0 m 12 ls []) := by
  intro k
  induction k with
  | zero => intro v3 mbm mgm mgr x_mbm x_mgm x_mgr hm; rw [mX8_layBoxes_L12] at hm; cases hm
  | succ k ih =>
    intro v3 mbm mgm mgr x_mbm x_mgm x_mgr hm ls hl H locs hP hD hS K0
    rw [mX8_layBoxes_L12] at hm
    refine lv_iload_n hx hb dX8_layBoxes_12 rfl (lv_at hl 2 rfl) ?_
    refine lv_aload_n hx hb dX8_layBoxes_13 rfl (lv_at hl 0 rfl) ?_
    refine kX8_cells ⟨hx, hb, hml, hown, hts⟩ qw_60 hP hK hl.1 ⟨Nat.le_trans (by decide) hR.1, Nat.le_trans (by decide) hR.2.1, hR.2.2⟩ (Nat.le_of_ble_eq_true rfl) dX8_layBoxes_14 ?_
    refine lv_aload_n hx hb dX8_layBoxes_17 rfl (lv_at hl 0 rfl) ?_
    refine kX8_cells ⟨hx, hb, hml, hown, hts⟩ qw_60 hP hK hl.1 ⟨Nat.le_trans (by decide) hR.1, Nat.le_trans (by decide) hR.2.1, hR.2.2⟩ (Nat.le_of_ble_eq_true rfl) dX8_layBoxes_18 ?_
    refine lv_imul hx hb dX8_layBoxes_21 ?_
    refine lv_icmp_ge (tgt := 144) hx hb dX8_layBoxes_22 (by decide) (fun c4 => ?_) (fun c4 => ?_)
    · rw [if_pos c4] at hm
      have hm := Option.some.inj hm
      have e9 : x_mbm = mbm := (congrArg (fun q => q.1) hm).symm
      rw [e9] at K0
      have e9 : x_mgm = mgm := (congrArg (fun q => q.2.1) hm).symm
      rw [e9] at K0
      have e9 : x_mgr = mgr := (congrArg (fun q => q.2.2) hm).symm
      rw [e9] at K0
      exact K0 ls (lv_sub hl [] rfl) _ _ hP hD hS
    · rw [if_neg c4] at hm
      refine lv_iload_n hx hb dX8_layBoxes_25 rfl (lv_at hl 2 rfl) ?_
      refine lv_aload_n hx hb dX8_layBoxes_26 rfl (lv_at hl 0 rfl) ?_
      refine kX8_cells ⟨hx, hb, hml, hown, hts⟩ qw_60 hP hK hl.1 ⟨Nat.le_trans (by decide) hR.1, Nat.le_trans (by decide) hR.2.1, hR.2.2⟩ (Nat.le_of_ble_eq_true rfl) dX8_layBoxes_27 ?_
      obtain ⟨g6, hm⟩ := gd_out hm
      refine lv_idiv hx hb dX8_layBoxes_30 g6 ?_
      refine lv_istore (lv' := [(4, .int (v3 / (mX8_cells mw mt))), (0, .ref oM), (1, .long v1), (3, .int v3)]) hx hb dX8_layBoxes_31 hl (by decide) rfl (fun ls hl => ?_)
      refine lv_iload_n hx hb dX8_layBoxes_33 rfl (lv_at hl 3 rfl) ?_
      refine lv_aload_n hx hb dX8_layBoxes_34 rfl (lv_at hl 1 rfl) ?_
      refine kX8_cells ⟨hx, hb, hml, hown, hts⟩ qw_60 hP hK hl.1 ⟨Nat.le_trans (by decide) hR.1, Nat.le_trans (by decide) hR.2.1, hR.2.2⟩ (Nat.le_of_ble_eq_true rfl) dX8_layBoxes_35 ?_
      obtain ⟨g8, hm⟩ := gd_out hm
      refine lv_irem hx hb dX8_layBoxes_38 g8 ?_
      refine lv_istore (lv' := [(5, .int (jrem v3 (mX8_cells mw mt))), (4, .int (v3 / (mX8_cells mw mt))), (0, .ref oM), (1, .long v1), (3, .int v3)]) hx hb dX8_layBoxes_39 hl (by decide) rfl (fun ls hl => ?_)
      refine lv_iload hx hb dX8_layBoxes_41 (lv_at hl 0 rfl) ?_
      refine lv_iload hx hb dX8_layBoxes_43 (lv_at hl 1 rfl) ?_
      obtain ⟨j9, hi10, hm⟩ := jb_out hm
      have key11 : ∀ (ls : Array Slot), lv_has ls 7 [(5, .int (jrem v3 (mX8_cells mw mt))), (4, .int (v3 / (mX8_cells mw mt))), (0, .ref oM), (1, .long v1), (3, .int v3)] → W p l e R s m args below meth c H locs cells slots Q (F0 m 82 ls [.int j9]) := by
        intro ls hl
        refine lv_istore (lv' := [(6, .int j9), (5, .int (jrem v3 (mX8_cells mw mt))), (4, .int (v3 / (mX8_cells mw mt))), (0, .ref oM), (1, .long v1), (3, .int v3)]) hx hb dX8_layBoxes_82 hl (by decide) rfl (fun ls hl => ?_)
        refine lv_iload hx hb dX8_layBoxes_84 (lv_at hl 0 rfl) ?_
        obtain ⟨j19, j20, j21, hi22, hm⟩ := jb_out3 hm
        have key23 : ∀ (ls : Array Slot), lv_has ls 7 [(0, .ref oM), (1, .long v1), (3, .int v3)] → ∀ (H : Heap) (locs : List Loc), va_P D vwCl (wdM cJ cI oM oM1 oM2 oM3 oM4 oM5 oM6 oM7 oM8 oM9 oM10 oM11 mw mt mrim mjn mhm mpn j19 j20 mpi mst mam mac mro mbe mhi mmi j21 mtr mle) H → va_D A (wdM cJ cI oM oM1 oM2 oM3 oM4 oM5 oM6 oM7 oM8 oM9 oM10 oM11 mw mt mrim mjn mhm mpn j19 j20 mpi mst mam mac mro mbe mhi mmi j21 mtr mle) → va_S A s.heap H locs → W p l e R s m args below meth c H locs cells slots Q (F0 m 138 ls []) := by
          intro ls hl H locs hP hD hS
          refine lv_iinc (v := (v3 + (1 : Int32))) (lv' := [(3, .int (v3 + (1 : Int32))), (0, .ref oM), (1, .long v1)]) hx hb dX8_layBoxes_138 hl (k := 2) rfl (by rfl) (by decide) rfl (fun ls hl => ?_)
          refine lv_goto (tgt := 12) hx hb dX8_layBoxes_141 (by decide) ?_
          exact ih _ _ _ _ _ _ _ hm ls (lv_sub hl [1, 2, 0] rfl) _ _ hP hD hS K0
        refine lv_if_eq (tgt := 138) hx hb dX8_layBoxes_86 (by decide) (fun c24 => ?_) (fun c24 => ?_)
        · rw [if_pos c24] at hi22
          have hi22 := Option.some.inj hi22
          have e9 : j19 = mbm := (congrArg (fun q => q.1) hi22).symm
          rw [e9] at key23
          have e9 : j20 = mgm := (congrArg (fun q => q.2.1) hi22).symm
          rw [e9] at key23
          have e9 : j21 = mgr := (congrArg (fun q => q.2.2) hi22).symm
          rw [e9] at key23
          exact key23 ls (lv_sub hl [3, 4, 5] rfl) _ _ hP hD hS
        · rw [if_neg c24] at hi22
          refine lv_aload_n hx hb dX8_layBoxes_89 rfl (lv_at hl 3 rfl) ?_
          refine lv_dup hx hb dX8_layBoxes_90 rfl ?_
          refine va_get (D := D) (ci := 8) (v := .int mbm) (C := RX8) (T := TX8) (N := 19) hx hb hts tnX8 hown hK hP 0 rfl rfl 14 (by decide) (hts _ qw_527) (fun _ h9 => h9) rfl dX8_layBoxes_91 ?_
          refine lv_iconst (v := (1 : Int32)) hx hb dX8_layBoxes_94 (by decide) ?_
          refine lv_iadd hx hb dX8_layBoxes_95 ?_
          refine va_put (D := D) (ci := 8) (v := .int (mbm + (1 : Int32))) (ty := .int) (C := RX8) (T := TX8) (N := 19) hx hb hts tnX8 tyX8 tyX8_ok nmX8 hown hK hP hD hS 0 rfl rfl 14 (by decide) (hts _ qw_527) (fun _ h9 => h9) rfl (by decide +kernel) rfl rfl (Nat.le_of_ble_eq_true rfl) dX8_layBoxes_96 (fun H locs hP hD hS => ?_)
          have hP : va_P D vwCl (wdM cJ cI oM oM1 oM2 oM3 oM4 oM5 oM6 oM7 oM8 oM9 oM10 oM11 mw mt mrim mjn mhm mpn (mbm + (1 : Int32)) mgm mpi mst mam mac mro mbe mhi mmi mgr mtr mle) H := hP
          have hD : va_D A (wdM cJ cI oM oM1 oM2 oM3 oM4 oM5 oM6 oM7 oM8 oM9 oM10 oM11 mw mt mrim mjn mhm mpn (mbm + (1 : Int32)) mgm mpi mst mam mac mro mbe mhi mmi mgr mtr mle) := hD
          refine lv_aload_n hx hb dX8_layBoxes_99 rfl (lv_at hl 3 rfl) ?_
          refine lv_lload_n hx hb dX8_layBoxes_100 rfl (lv_at hl 4 rfl) ?_
          refine lv_iload hx hb dX8_layBoxes_101 (lv_at hl 2 rfl) ?_
          refine lv_iload hx hb dX8_layBoxes_103 (lv_at hl 1 rfl) ?_
          obtain ⟨r25, h26, hi22⟩ := jb_out hi22
          refine kX8_isWithin ⟨hx, hb, hml, hown, hts⟩ qw_529 hP hK h26 hl.1 ⟨Nat.le_trans (by decide) hR.1, Nat.le_trans (by decide) hR.2.1, hR.2.2⟩ (Nat.le_of_ble_eq_true rfl) dX8_layBoxes_105 ?_
          refine lv_if_ne (tgt := 138) hx hb dX8_layBoxes_108 (by decide) (fun c27 => ?_) (fun c27 => ?_)
          · rw [if_neg c27] at hi22
            have hi22 := Option.some.inj hi22
            have e9 : j19 = (mbm + (1 : Int32)) := (congrArg (fun q => q.1) hi22).symm
            rw [e9] at key23
            have e9 : j20 = mgm := (congrArg (fun q => q.2.1) hi22).symm
            rw [e9] at key23
            have e9 : j21 = mgr := (congrArg (fun q => q.2.2) hi22).symm
            rw [e9] at key23
            exact key23 ls (lv_sub hl [3, 4, 5] rfl) _ _ hP hD hS
          · rw [if_pos c27] at hi22
            refine lv_aload_n hx hb dX8_layBoxes_111 rfl (lv_at hl 3 rfl) ?_
            refine va_get (D := D) (ci := 8) (v := .ref oM9) (C := RX8) (T := TX8) (N := 19) hx hb hts tnX8 hown hK hP 0 rfl rfl 16 (by decide) (hts _ qw_530) (fun _ h9 => h9) rfl dX8_layBoxes_112 ?_
            refine lv_aload_n hx hb dX8_layBoxes_115 rfl (lv_at hl 3 rfl) ?_
            refine va_get (D := D) (ci := 8) (v := .int mgm) (C := RX8) (T := TX8) (N := 19) hx hb hts tnX8 hown hK hP 0 rfl rfl 15 (by decide) (hts _ qw_528) (fun _ h9 => h9) rfl dX8_layBoxes_116 ?_
            refine lv_aload_n hx hb dX8_layBoxes_119 rfl (lv_at hl 3 rfl) ?_
            refine lv_iload hx hb dX8_layBoxes_120 (lv_at hl 2 rfl) ?_
            refine lv_iload hx hb dX8_layBoxes_122 (lv_at hl 1 rfl) ?_
            obtain ⟨r28, h29, hi22⟩ := jb_out hi22
            refine kX8_boxOf ⟨hx, hb, hml, hown, hts⟩ qw_171 hP hK h29 hl.1 ⟨Nat.le_trans (by decide) hR.1, Nat.le_trans (by decide) hR.2.1, hR.2.2⟩ (Nat.le_of_ble_eq_true rfl) dX8_layBoxes_124 ?_
            obtain ⟨g30, hi22⟩ := gd_out hi22
            refine va_last hx hb hK hP hD hS 9 1 rfl rfl g30 dX8_layBoxes_127 (fun H locs hP hD hS => ?_)
            have hP : va_P D vwCl (wdM cJ cI oM oM1 oM2 oM3 oM4 oM5 oM6 oM7 oM8 oM9 oM10 oM11 mw mt mrim mjn mhm mpn (mbm + (1 : Int32)) mgm mpi mst mam mac mro mbe mhi mmi (vp_updL mgr mgm.toNatClampNeg r28) mtr mle) H := hP
            have hD : va_D A (wdM cJ cI oM oM1 oM2 oM3 oM4 oM5 oM6 oM7 oM8 oM9 oM10 oM11 mw mt mrim mjn mhm mpn (mbm + (1 : Int32)) mgm mpi mst mam mac mro mbe mhi mmi (vp_updL mgr mgm.toNatClampNeg r28) mtr mle) := hD
            refine lv_aload_n hx hb dX8_layBoxes_128 rfl (lv_at hl 3 rfl) ?_
            refine lv_dup hx hb dX8_layBoxes_129 rfl ?_
            refine va_get (D := D) (ci := 8) (v := .int mgm) (C := RX8) (T := TX8) (N := 19) hx hb hts tnX8 hown hK hP 0 rfl rfl 15 (by decide) (hts _ qw_528) (fun _ h9 => h9) rfl dX8_layBoxes_130 ?_
            refine lv_iconst (v := (1 : Int32)) hx hb dX8_layBoxes_133 (by decide) ?_
            refine lv_iadd hx hb dX8_layBoxes_134 ?_
            refine va_put (D := D) (ci := 8) (v := .int (mgm + (1 : Int32))) (ty := .int) (C := RX8) (T := TX8) (N := 19) hx hb hts tnX8 tyX8 tyX8_ok nmX8 hown hK hP hD hS 0 rfl rfl 15 (by decide) (hts _ qw_528) (fun _ h9 => h9) rfl (by decide +kernel) rfl rfl (Nat.le_of_ble_eq_true rfl) dX8_layBoxes_135 (fun H locs hP hD hS => ?_)
            have hP : va_P D vwCl (wdM cJ cI oM oM1 oM2 oM3 oM4 oM5 oM6 oM7 oM8 oM9 oM10 oM11 mw mt mrim mjn mhm mpn (mbm + (1 : Int32)) (mgm + (1 : Int32)) mpi mst mam mac mro mbe mhi mmi (vp_updL mgr mgm.toNatClampNeg r28) mtr mle) H := hP
            have hD : va_D A (wdM cJ cI oM oM1 oM2 oM3 oM4 oM5 oM6 oM7 oM8 oM9 oM10 oM11 mw mt mrim mjn mhm mpn (mbm + (1 : Int32)) (mgm + (1 : Int32)) mpi mst mam mac mro mbe mhi mmi (vp_updL mgr mgm.toNatClampNeg r28) mtr mle) := hD
            have hi22 := Option.some.inj hi22
            have e9 : j19 = (mbm + (1 : Int32)) := (congrArg (fun q => q.1) hi22).symm
            rw [e9] at key23
            have e9 : j20 = (mgm + (1 : Int32)) := (congrArg (fun q => q.2.1) hi22).symm
            rw [e9] at key23
            have e9 : j21 = (vp_updL mgr mgm.toNatClampNeg r28) := (congrArg (fun q => q.2.2) hi22).symm
            rw [e9] at key23
            exact key23 ls (lv_sub hl [3, 4, 5] rfl) _ _ hP hD hS
      refine lv_icmp_lt (tgt := 81) hx hb dX8_layBoxes_45 (by decide) (fun c12 => ?_) (fun c12 => ?_)
      · rw [if_pos c12] at hi10
        refine lv_iconst (v := (0 : Int32)) hx hb dX8_layBoxes_81 (by decide) ?_
        have hi10 := Option.some.inj hi10
        have e9 : j9 = (0 : Int32) := (congrArg (fun q => q) hi10).symm
        rw [e9] at key11
        exact key11 ls (lv_sub hl [0, 1, 2, 3, 4] rfl)
      · rw [if_neg c12] at hi10
        refine lv_iload hx hb dX8_layBoxes_48 (lv_at hl 0 rfl) ?_
        refine lv_aload_n hx hb dX8_layBoxes_50 rfl (lv_at hl 2 rfl) ?_
        refine va_get (D := D) (ci := 8) (v := .int mw) (C := RX8) (T := TX8) (N := 19) hx hb hts tnX8 hown hK hP 0 rfl rfl 0 (by decide) (hts _ qw_55) (fun _ h9 => h9) rfl dX8_layBoxes_51 ?_
        obtain ⟨g13, hi10⟩ := gd_out hi10
        refine lv_irem hx hb dX8_layBoxes_54 g13 ?_
        refine lv_iload hx hb dX8_layBoxes_55 (lv_at hl 1 rfl) ?_
        refine lv_aload_n hx hb dX8_layBoxes_57 rfl (lv_at hl 2 rfl) ?_
        refine va_get (D := D) (ci := 8) (v := .int mw) (C := RX8) (T := TX8) (N := 19) hx hb hts tnX8 hown hK hP 0 rfl rfl 0 (by decide) (hts _ qw_55) (fun _ h9 => h9) rfl dX8_layBoxes_58 ?_
        obtain ⟨g14, hi10⟩ := gd_out hi10
        refine lv_irem hx hb dX8_layBoxes_61 g14 ?_
        refine lv_icmp_lt (tgt := 81) hx hb dX8_layBoxes_62 (by decide) (fun c15 => ?_) (fun c15 => ?_)
        · rw [if_pos c15] at hi10
          refine lv_iconst (v := (0 : Int32)) hx hb dX8_layBoxes_81 (by decide) ?_
          have hi10 := Option.some.inj hi10
          have e9 : j9 = (0 : Int32) := (congrArg (fun q => q) hi10).symm
          rw [e9] at key11
          exact key11 ls (lv_sub hl [0, 1, 2, 3, 4] rfl)
        · rw [if_neg c15] at hi10
          refine lv_aload_n hx hb dX8_layBoxes_65 rfl (lv_at hl 2 rfl) ?_
          refine lv_lload_n hx hb dX8_layBoxes_66 rfl (lv_at hl 3 rfl) ?_
          refine lv_iload hx hb dX8_layBoxes_67 (lv_at hl 1 rfl) ?_
          refine lv_iload hx hb dX8_layBoxes_69 (lv_at hl 0 rfl) ?_
          obtain ⟨r16, h17, hi10⟩ := jb_out hi10
          refine kX8_isAllIn ⟨hx, hb, hml, hown, hts⟩ qw_175 hP hK h17 hl.1 ⟨Nat.le_trans (by decide) hR.1, Nat.le_trans (by decide) hR.2.1, hR.2.2⟩ (Nat.le_of_ble_eq_true rfl) dX8_layBoxes_71 ?_
          refine lv_if_eq (tgt := 81) hx hb dX8_layBoxes_74 (by decide) (fun c18 => ?_) (fun c18 => ?_)
          · rw [if_pos c18] at hi10
            refine lv_iconst (v := (0 : Int32)) hx hb dX8_layBoxes_81 (by decide) ?_
            have hi10 := Option.some.inj hi10
            have e9 : j9 = (0 : Int32) := (congrArg (fun q => q) hi10).symm
            rw [e9] at key11
            exact key11 ls (lv_sub hl [0, 1, 2, 3, 4] rfl)
          · rw [if_neg c18] at hi10
            refine lv_iconst (v := (1 : Int32)) hx hb dX8_layBoxes_77 (by decide) ?_
            refine lv_goto (tgt := 82) hx hb dX8_layBoxes_78 (by decide) ?_
            have hi10 := Option.some.inj hi10
            have e9 : j9 = (1 : Int32) := (congrArg (fun q => q) hi10).symm
            rw [e9] at key11
            exact key11 ls (lv_sub hl [0, 1, 2, 3, 4] rfl)
set_option maxHeartbeats 4000000 in
set_option maxRecDepth 100000 in
theorem bX8_layBoxes {n : Nat} {a1 : Int64} {y_mbm : (Int32)} {y_mgm : (Int32)} {y_mgr : (Nat → Int64)} (hx : p.tables.exec = Jvm.exec) (hb : c.code = cX8_layBoxes) (hml : c.maxLocals = 7) (hown : s.vm.findClass RX8 = some m.cls) (hts : ∀ w ∈ tw, w.before args s = true) (hK : va_K D vwCl [(cI, .int), (cJ, .long)] s) (hA : ∀ q, s.heap.size ≤ q → A q) (hR : 4 ≤ R.frames ∧ 108 ≤ R.locals ∧ cells ≤ R.cells ∧ slots ≤ R.slots) (hm : mX8_layBoxes n mw mt mgr a1 = some (y_mbm, y_mgm, y_mgr)) (ls : Array Slot) (hl : lv_has ls 7 [(0, .ref oM), (1, .long a1)]) (hP : va_P D vwCl (wdM cJ cI oM oM1 oM2 oM3 oM4 oM5 oM6 oM7 oM8 oM9 oM10 oM11 mw mt mrim mjn mhm mpn mbm mgm mpi mst mam mac mro mbe mhi mmi mgr mtr mle) H) (hD : va_D A (wdM cJ cI oM oM1 oM2 oM3 oM4 oM5 oM6 oM7 oM8 oM9 oM10 oM11 mw mt mrim mjn mhm mpn mbm mgm mpi mst mam mac mro mbe mhi mmi mgr mtr mle)) (hS : va_S A s.heap H locs) (K : ∀ (pc : Nat) (ls : Array Slot) (H : Heap) (locs : List Loc), decode cX8_layBoxes pc = .ok (.return_, 1) → va_P D vwCl (wdM cJ cI oM oM1 oM2 oM3 oM4 oM5 oM6 oM7 oM8 oM9 oM10 oM11 mw mt mrim mjn mhm mpn y_mbm y_mgm mpi mst mam mac mro mbe mhi mmi y_mgr mtr mle) H → va_D A (wdM cJ cI oM oM1 oM2 oM3 oM4 oM5 oM6 oM7 oM8 oM9 oM10 oM11 mw mt mrim mjn mhm mpn y_mbm y_mgm mpi mst mam mac mro mbe mhi mmi y_mgr mtr mle) → va_S A s.heap H locs → W p l e R s m args below meth c H locs cells slots Q (F0 m pc ls [])) : W p l e R s m args below meth c H locs cells slots Q (F0 m 0 ls []) := by
  unfold mX8_layBoxes at hm
  refine lv_aload_n hx hb dX8_layBoxes_0 rfl (lv_at hl 0 rfl) ?_
  refine lv_iconst (v := (0 : Int32)) hx hb dX8_layBoxes_1 (by decide) ?_
  refine va_put (D := D) (ci := 8) (v := .int (0 : Int32)) (ty := .int) (C := RX8) (T := TX8) (N := 19) hx hb hts tnX8 tyX8 tyX8_ok nmX8 hown hK hP hD hS 0 rfl rfl 14 (by decide) (hts _ qw_527) (fun _ h9 => h9) rfl (by decide +kernel) rfl rfl (Nat.le_of_ble_eq_true rfl) dX8_layBoxes_2 (fun H locs hP hD hS => ?_)
  have hP : va_P D vwCl (wdM cJ cI oM oM1 oM2 oM3 oM4 oM5 oM6 oM7 oM8 oM9 oM10 oM11 mw mt mrim mjn mhm mpn (0 : Int32) mgm mpi mst mam mac mro mbe mhi mmi mgr mtr mle) H := hP
  have hD : va_D A (wdM cJ cI oM oM1 oM2 oM3 oM4 oM5 oM6 oM7 oM8 oM9 oM10 oM11 mw mt mrim mjn mhm mpn (0 : Int32) mgm mpi mst mam mac mro mbe mhi mmi mgr mtr mle) := hD
  refine lv_aload_n hx hb dX8_layBoxes_5 rfl (lv_at hl 0 rfl) ?_
  refine lv_iconst (v := (0 : Int32)) hx hb dX8_layBoxes_6 (by decide) ?_
  refine va_put (D := D) (ci := 8) (v := .int (0 : Int32)) (ty := .int) (C := RX8) (T := TX8) (N := 19) hx hb hts tnX8 tyX8 tyX8_ok nmX8 hown hK hP hD hS 0 rfl rfl 15 (by decide) (hts _ qw_528) (fun _ h9 => h9) rfl (by decide +kernel) rfl rfl (Nat.le_of_ble_eq_true rfl) dX8_layBoxes_7 (fun H locs hP hD hS => ?_)
  have hP : va_P D vwCl (wdM cJ cI oM oM1 oM2 oM3 oM4 oM5 oM6 oM7 oM8 oM9 oM10 oM11 mw mt mrim mjn mhm mpn (0 : Int32) (0 : Int32) mpi mst mam mac mro mbe mhi mmi mgr mtr mle) H := hP
  have hD : va_D A (wdM cJ cI oM oM1 oM2 oM3 oM4 oM5 oM6 oM7 oM8 oM9 oM10 oM11 mw mt mrim mjn mhm mpn (0 : Int32) (0 : Int32) mpi mst mam mac mro mbe mhi mmi mgr mtr mle) := hD
  refine lv_iconst (v := (0 : Int32)) hx hb dX8_layBoxes_10 (by decide) ?_
  refine lv_istore_n (lv' := [(3, .int (0 : Int32)), (0, .ref oM), (1, .long a1)]) hx hb dX8_layBoxes_11 rfl hl (by decide) rfl (fun ls hl => ?_)
  obtain ⟨y31, y32, y33, h34, hm⟩ := jb_out3 hm
  refine wX8_layBoxes_L12 hx hb hml hown hts hK hA hR n _ _ _ _ _ _ _  h34 ls (lv_sub hl [1, 2, 0] rfl) _ _ hP hD hS (fun ls hl H locs hP hD hS => ?_)
  have hm := Option.some.inj hm
  have e9 : y_mbm = y31 := (congrArg (fun q => q.1) hm).symm
  rw [e9] at K
  have e9 : y_mgm = y32 := (congrArg (fun q => q.2.1) hm).symm
  rw [e9] at K
  have e9 : y_mgr = y33 := (congrArg (fun q => q.2.2) hm).symm
  rw [e9] at K
  exact K 144 ls _ _ dX8_layBoxes_144 hP hD hS
set_option maxHeartbeats 4000000 in
set_option maxRecDepth 100000 in
theorem tX8_layBoxes (l : Launch) {D : va_G} (sz : Nat) {n : Nat} {a1 : Int64} {y_mbm : (Int32)} {y_mgm : (Int32)} {y_mgr : (Nat → Int64)} (hm : mX8_layBoxes n mw mt mgr a1 = some (y_mbm, y_mgm, y_mgr)) : Met l yX8_layBoxes (.code yX8_layBoxes cX8_layBoxes 7 none :: tw) ({ frames := 4, cells := 0, slots := 0, locals := 108 } : Room) (wrP D [.ref oM, .long a1] (wdM cJ cI oM oM1 oM2 oM3 oM4 oM5 oM6 oM7 oM8 oM9 oM10 oM11 mw mt mrim mjn mhm mpn mbm mgm mpi mst mam mac mro mbe mhi mmi mgr mtr mle) [(cI, .int), (cJ, .long)] sz) (va_Qv (fun (_ : Unit) => True) (fun (_ : Unit) (t : State) => va_P D vwCl (wdM cJ cI oM oM1 oM2 oM3 oM4 oM5 oM6 oM7 oM8 oM9 oM10 oM11 mw mt mrim mjn mhm mpn y_mbm y_mgm mpi mst mam mac mro mbe mhi mmi y_mgr mtr mle) t.heap ∧ va_K D vwCl [(cI, .int), (cJ, .long)] t ∧ va_D (va_A (wdM cJ cI oM oM1 oM2 oM3 oM4 oM5 oM6 oM7 oM8 oM9 oM10 oM11 mw mt mrim mjn mhm mpn mbm mgm mpi mst mam mac mro mbe mhi mmi mgr mtr mle) sz) (wdM cJ cI oM oM1 oM2 oM3 oM4 oM5 oM6 oM7 oM8 oM9 oM10 oM11 mw mt mrim mjn mhm mpn y_mbm y_mgm mpi mst mam mac mro mbe mhi mmi y_mgr mtr mle)) (va_A (wdM cJ cI oM oM1 oM2 oM3 oM4 oM5 oM6 oM7 oM8 oM9 oM10 oM11 mw mt mrim mjn mhm mpn mbm mgm mpi mst mam mac mro mbe mhi mmi mgr mtr mle) sz)) 0 0 (va_A (wdM cJ cI oM oM1 oM2 oM3 oM4 oM5 oM6 oM7 oM8 oM9 oM10 oM11 mw mt mrim mjn mhm mpn mbm mgm mpi mst mam mac mro mbe mhi mmi mgr mtr mle) sz) := by
  refine Met.ofW (cc := cX8_layBoxes) (maxL := 7) (ret := none) (by decide) rfl ?_
  intro p e s m args below meth c s₁ B hml hv
  obtain ⟨rfl, hsz, hP, hK, hD0⟩ := hv
  have hx := B.exec
  have hb := B.bytes
  have hr := B.returns
  have hts : ∀ w ∈ tw, w.before _ s = true := fun w h => atoms_spec (ws := .code yX8_layBoxes cX8_layBoxes 7 none :: tw) B.pre w (List.mem_cons_of_mem _ h)
  have hown : s.vm.findClass RX8 = some m.cls := findClass_of_methodNamed B.named
  have hlocks := B.notSynchronized
  subst hsz
  have hD := hD0.self (sz := s.heap.size)
  have hl := lv_entry ([.ref oM, .long a1]) (n := 7) (Nat.le_of_ble_eq_true rfl)
  rw [lg_entry_eq]
  generalize (lg_sl ([.ref oM, .long a1]) ++ List.replicate (7 - (lg_sl ([.ref oM, .long a1])).length) Slot.unset).toArray = ls at hl ⊢
  refine bX8_layBoxes hx hb hml hown hts hK (fun q h => Or.inr h) ⟨Nat.le_of_ble_eq_true rfl, Nat.le_of_ble_eq_true rfl, Nat.zero_le _, Nat.zero_le _⟩ hm ls hl hP hD va_S.rf (fun pc ls H locs hd hP hD hS => ?_)
  exact W.vret hx hb hr (fun t ht hW => ⟨⟨(), rfl, trivial, by rw [ht]; exact hP, va_K.moved hW.alike hK, hD⟩, hS.F ht⟩) hS.2.2 hd
set_option maxHeartbeats 4000000 in
set_option maxRecDepth 100000 in
theorem kX8_layBoxes {own : String} {cc : ByteArray} {nL idx pc : Nat} {ls : Array Slot} {rest : List Value} {ws wr : va_W} {n : Nat} {a1 : Int64} {y_mbm : (Int32)} {y_mgm : (Int32)} {y_mgr : (Nat → Int64)} (fx : CallFix p m c cc nL s args tw own) (hq : Cond.methodLink own idx yX8_layBoxes ∈ tw) (isC isR : List Nat) (hC : isC.map (fun i => ws[i]?) = ((wdM cJ cI oM oM1 oM2 oM3 oM4 oM5 oM6 oM7 oM8 oM9 oM10 oM11 mw mt mrim mjn mhm mpn mbm mgm mpi mst mam mac mro mbe mhi mmi mgr mtr mle) : va_W).map some) (hRr : isR.map (fun i => ws[i]?) = wr.map some) (hnC : va_nd isC = true) (hn : va_nd isR = true) (hdis : ∀ i ∈ isR, i ∉ isC) (hK : va_K D vwCl [(cI, .int), (cJ, .long)] s) (hm : mX8_layBoxes n mw mt mgr a1 = some (y_mbm, y_mgm, y_mgr)) (hsz : ls.size = nL) (hR : 5 ≤ R.frames ∧ 134 ≤ R.locals ∧ cells ≤ R.cells ∧ slots ≤ R.slots) (hst : (rest.map fun v => v.category).sum ≤ 8) (hd : decode cc pc = .ok (.invokevirtual idx, 3)) (hP : va_P D vwCl ws H) (hD : va_D A ws) (hS : va_S A s.heap H locs) (hA : ∀ q, s.heap.size ≤ q → A q) (kk : ∀ (H : Heap) (locs : List Loc), va_P D vwCl (wr ++ (wdM cJ cI oM oM1 oM2 oM3 oM4 oM5 oM6 oM7 oM8 oM9 oM10 oM11 mw mt mrim mjn mhm mpn y_mbm y_mgm mpi mst mam mac mro mbe mhi mmi y_mgr mtr mle)) H → va_D A (wr ++ (wdM cJ cI oM oM1 oM2 oM3 oM4 oM5 oM6 oM7 oM8 oM9 oM10 oM11 mw mt mrim mjn mhm mpn y_mbm y_mgm mpi mst mam mac mro mbe mhi mmi y_mgr mtr mle)) → va_S A s.heap H locs → W p l e R s m args below meth c H locs cells slots Q (F0 m (pc + 3) ls (rest))) : W p l e R s m args below meth c H locs cells slots Q (F0 m pc ls (.long a1 :: .ref oM :: rest)) := by
  have hPc := va_P.subM hP isC hC
  have hDc := hD.sub isC hnC hC
  have hFc := va_free (wc := (wdM cJ cI oM oM1 oM2 oM3 oM4 oM5 oM6 oM7 oM8 oM9 oM10 oM11 mw mt mrim mjn mhm mpn mbm mgm mpi mst mam mac mro mbe mhi mmi mgr mtr mle)) hD hS hA isC hC
  refine va_callv (va_runV (As := [.long a1]) (rest := rest) fx (tX8_layBoxes l H.size hm) (cwV 1 fx.2.2.2.2 (tw_V hq qw_531 qw_532 qw_53 qw_533) rfl rfl rfl (by decide +kernel) ⟨hR.1, hR.2.1⟩) ⟨wrP_bl, va_recv hK hPc (ci := 8) (q0 := 0) rfl rfl, wrP_ok hPc hK hDc⟩ rfl rfl hsz rfl (lv_room hst) hd ⟨hR.2.2.1, hR.2.2.2⟩) hS (fun q _ h => hFc q h) hFc (fun u t H1 locs ht hvm hw hB hz1 hk1 hS => ?_)
  obtain ⟨hP1, hK1, hD1⟩ := hB
  rw [ht] at hP1
  obtain ⟨hP2, hD2⟩ := va_join (wr := wr) (w1 := (wdM cJ cI oM oM1 oM2 oM3 oM4 oM5 oM6 oM7 oM8 oM9 oM10 oM11 mw mt mrim mjn mhm mpn y_mbm y_mgm mpi mst mam mac mro mbe mhi mmi y_mgr mtr mle)) hP hD isC isR hC hRr hn hdis hk1 hFc hP1 hD1
  exact kk H1 locs hP2 hD2 hS
-- X8_boxes
def mX8_boxes (n : Nat) (mbm : Int32) (mgm : Int32) (mgr : Nat → Int64) (mw : Int32) (mt : Int32) (mpi : Nat → Int64) (a1 : Int32) (a2 : Int32) : Option (Int32 × (Int32) × (Int32) × (Nat → Int64)) :=
  (if (mX8_isPicture a1) = 0 then (some ((-1 : Int32), mbm, mgm, mgr)) else gd (ib a1 5) (jb3 (mX8_layBoxes n mw mt mgr (mpi a1.toNatClampNeg)) (fun (y6 : Int32) (y7 : Int32) (y8 : Nat → Int64) => (if a2 = 0 then (some (y7, y6, y7, y8)) else (some (y6, y6, y7, y8))))))
theorem dX8_boxes_0 : decode cX8_boxes 0 = .ok (.iload_n 1, 1) := by decide +kernel
theorem dX8_boxes_1 : decode cX8_boxes 1 = .ok (.invokestatic 71, 3) := by decide +kernel
theorem dX8_boxes_4 : decode cX8_boxes 4 = .ok (.ifCond .ne 5, 3) := by decide +kernel
theorem dX8_boxes_7 : decode cX8_boxes 7 = .ok (.iconst (-1), 1) := by decide +kernel
theorem dX8_boxes_8 : decode cX8_boxes 8 = .ok (.ireturn, 1) := by decide +kernel
theorem dX8_boxes_9 : decode cX8_boxes 9 = .ok (.aload_n 0, 1) := by decide +kernel
theorem dX8_boxes_10 : decode cX8_boxes 10 = .ok (.aload_n 0, 1) := by decide +kernel
theorem dX8_boxes_11 : decode cX8_boxes 11 = .ok (.getfield 16, 3) := by decide +kernel
theorem dX8_boxes_14 : decode cX8_boxes 14 = .ok (.iload_n 1, 1) := by decide +kernel
theorem dX8_boxes_15 : decode cX8_boxes 15 = .ok (.laload, 1) := by decide +kernel
theorem dX8_boxes_16 : decode cX8_boxes 16 = .ok (.invokevirtual 178, 3) := by decide +kernel
theorem dX8_boxes_19 : decode cX8_boxes 19 = .ok (.iload_n 2, 1) := by decide +kernel
theorem dX8_boxes_20 : decode cX8_boxes 20 = .ok (.ifCond .eq 10, 3) := by decide +kernel
theorem dX8_boxes_23 : decode cX8_boxes 23 = .ok (.aload_n 0, 1) := by decide +kernel
theorem dX8_boxes_24 : decode cX8_boxes 24 = .ok (.getfield 169, 3) := by decide +kernel
theorem dX8_boxes_27 : decode cX8_boxes 27 = .ok (.goto 7, 3) := by decide +kernel
theorem dX8_boxes_30 : decode cX8_boxes 30 = .ok (.aload_n 0, 1) := by decide +kernel
theorem dX8_boxes_31 : decode cX8_boxes 31 = .ok (.getfield 172, 3) := by decide +kernel
theorem dX8_boxes_34 : decode cX8_boxes 34 = .ok (.ireturn, 1) := by decide +kernel
set_option maxHeartbeats 4000000 in
set_option maxRecDepth 100000 in
theorem bX8_boxes {n : Nat} {a1 : Int32} {a2 : Int32} {r : Int32} {y_mbm : (Int32)} {y_mgm : (Int32)} {y_mgr : (Nat → Int64)} (hx : p.tables.exec = Jvm.exec) (hb : c.code = cX8_boxes) (hml : c.maxLocals = 3) (hown : s.vm.findClass RX8 = some m.cls) (hts : ∀ w ∈ tw, w.before args s = true) (hK : va_K D vwCl [(cI, .int), (cJ, .long)] s) (hA : ∀ q, s.heap.size ≤ q → A q) (hR : 5 ≤ R.frames ∧ 134 ≤ R.locals ∧ cells ≤ R.cells ∧ slots ≤ R.slots) (hm : mX8_boxes n mbm mgm mgr mw mt mpi a1 a2 = some (r, y_mbm, y_mgm, y_mgr)) (ls : Array Slot) (hl : lv_has ls 3 [(0, .ref oM), (1, .int a1), (2, .int a2)]) (hP : va_P D vwCl (wdM cJ cI oM oM1 oM2 oM3 oM4 oM5 oM6 oM7 oM8 oM9 oM10 oM11 mw mt mrim mjn mhm mpn mbm mgm mpi mst mam mac mro mbe mhi mmi mgr mtr mle) H) (hD : va_D A (wdM cJ cI oM oM1 oM2 oM3 oM4 oM5 oM6 oM7 oM8 oM9 oM10 oM11 mw mt mrim mjn mhm mpn mbm mgm mpi mst mam mac mro mbe mhi mmi mgr mtr mle)) (hS : va_S A s.heap H locs) (K : ∀ (pc : Nat) (ls : Array Slot) (H : Heap) (locs : List Loc), decode cX8_boxes pc = .ok (.ireturn, 1) → va_P D vwCl (wdM cJ cI oM oM1 oM2 oM3 oM4 oM5 oM6 oM7 oM8 oM9 oM10 oM11 mw mt mrim mjn mhm mpn y_mbm y_mgm mpi mst mam mac mro mbe mhi mmi y_mgr mtr mle) H → va_D A (wdM cJ cI oM oM1 oM2 oM3 oM4 oM5 oM6 oM7 oM8 oM9 oM10 oM11 mw mt mrim mjn mhm mpn y_mbm y_mgm mpi mst mam mac mro mbe mhi mmi y_mgr mtr mle) → va_S A s.heap H locs → W p l e R s m args below meth c H locs cells slots Q (F0 m pc ls [.int r])) : W p l e R s m args below meth c H locs cells slots Q (F0 m 0 ls []) := by
  unfold mX8_boxes at hm
  refine lv_iload_n hx hb dX8_boxes_0 rfl (lv_at hl 1 rfl) ?_
  refine kX8_isPicture ⟨hx, hb, hml, hown, hts⟩ qw_101 hl.1 ⟨Nat.le_trans (by decide) hR.1, Nat.le_trans (by decide) hR.2.1, hR.2.2⟩ (Nat.le_of_ble_eq_true rfl) dX8_boxes_1 ?_
  refine lv_if_ne (tgt := 9) hx hb dX8_boxes_4 (by decide) (fun c2 => ?_) (fun c2 => ?_)
  · rw [if_neg c2] at hm
    refine lv_aload_n hx hb dX8_boxes_9 rfl (lv_at hl 0 rfl) ?_
    refine lv_aload_n hx hb dX8_boxes_10 rfl (lv_at hl 0 rfl) ?_
    refine va_get (D := D) (ci := 8) (v := .ref oM1) (C := RX8) (T := TX8) (N := 19) hx hb hts tnX8 hown hK hP 0 rfl rfl 2 (by decide) (hts _ qw_103) (fun _ h9 => h9) rfl dX8_boxes_11 ?_
    refine lv_iload_n hx hb dX8_boxes_14 rfl (lv_at hl 1 rfl) ?_
    obtain ⟨g3, hm⟩ := gd_out hm
    refine va_lald hx hb hK hP 1 1 rfl rfl g3 dX8_boxes_15 ?_
    obtain ⟨y6, y7, y8, h5, hm⟩ := jb_out3 hm
    refine kX8_layBoxes (ws := (wdM cJ cI oM oM1 oM2 oM3 oM4 oM5 oM6 oM7 oM8 oM9 oM10 oM11 mw mt mrim mjn mhm mpn mbm mgm mpi mst mam mac mro mbe mhi mmi mgr mtr mle)) (wr := []) ⟨hx, hb, hml, hown, hts⟩ qw_534 [0, 1, 2, 3, 4, 5, 6, 7, 8, 9, 10, 11] [] rfl rfl (by decide) (by decide) (by decide) hK h5 hl.1 ⟨Nat.le_trans (by decide) hR.1, Nat.le_trans (by decide) hR.2.1, hR.2.2⟩ (Nat.le_of_ble_eq_true rfl) dX8_boxes_16 hP hD hS hA (fun H locs hP hD hS => ?_)
    have hP : va_P D vwCl (wdM cJ cI oM oM1 oM2 oM3 oM4 oM5 oM6 oM7 oM8 oM9 oM10 oM11 mw mt mrim mjn mhm mpn y6 y7 mpi mst mam mac mro mbe mhi mmi y8 mtr mle) H := hP.sub [0, 1, 2, 3, 4, 5, 6, 7, 8, 9, 10, 11] rfl
    have hD : va_D A (wdM cJ cI oM oM1 oM2 oM3 oM4 oM5 oM6 oM7 oM8 oM9 oM10 oM11 mw mt mrim mjn mhm mpn y6 y7 mpi mst mam mac mro mbe mhi mmi y8 mtr mle) := hD.sub [0, 1, 2, 3, 4, 5, 6, 7, 8, 9, 10, 11] (by decide) rfl
    refine lv_iload_n hx hb dX8_boxes_19 rfl (lv_at hl 2 rfl) ?_
    refine lv_if_eq (tgt := 30) hx hb dX8_boxes_20 (by decide) (fun c9 => ?_) (fun c9 => ?_)
    · rw [if_pos c9] at hm
      refine lv_aload_n hx hb dX8_boxes_30 rfl (lv_at hl 0 rfl) ?_
      refine va_get (D := D) (ci := 8) (v := .int y7) (C := RX8) (T := TX8) (N := 19) hx hb hts tnX8 hown hK hP 0 rfl rfl 15 (by decide) (hts _ qw_528) (fun _ h9 => h9) rfl dX8_boxes_31 ?_
      have hm := Option.some.inj hm
      have e9 : r = y7 := (congrArg (fun q => q.1) hm).symm
      rw [e9] at K
      have e9 : y_mbm = y6 := (congrArg (fun q => q.2.1) hm).symm
      rw [e9] at K
      have e9 : y_mgm = y7 := (congrArg (fun q => q.2.2.1) hm).symm
      rw [e9] at K
      have e9 : y_mgr = y8 := (congrArg (fun q => q.2.2.2) hm).symm
      rw [e9] at K
      exact K 34 ls _ _ dX8_boxes_34 hP hD hS
    · rw [if_neg c9] at hm
      refine lv_aload_n hx hb dX8_boxes_23 rfl (lv_at hl 0 rfl) ?_
      refine va_get (D := D) (ci := 8) (v := .int y6) (C := RX8) (T := TX8) (N := 19) hx hb hts tnX8 hown hK hP 0 rfl rfl 14 (by decide) (hts _ qw_527) (fun _ h9 => h9) rfl dX8_boxes_24 ?_
      refine lv_goto (tgt := 34) hx hb dX8_boxes_27 (by decide) ?_
      have hm := Option.some.inj hm
      have e9 : r = y6 := (congrArg (fun q => q.1) hm).symm
      rw [e9] at K
      have e9 : y_mbm = y6 := (congrArg (fun q => q.2.1) hm).symm
      rw [e9] at K
      have e9 : y_mgm = y7 := (congrArg (fun q => q.2.2.1) hm).symm
      rw [e9] at K
      have e9 : y_mgr = y8 := (congrArg (fun q => q.2.2.2) hm).symm
      rw [e9] at K
      exact K 34 ls _ _ dX8_boxes_34 hP hD hS
  · rw [if_pos c2] at hm
    refine lv_iconst (v := (-1 : Int32)) hx hb dX8_boxes_7 (by decide) ?_
    have hm := Option.some.inj hm
    have e9 : r = (-1 : Int32) := (congrArg (fun q => q.1) hm).symm
    rw [e9] at K
    have e9 : y_mbm = mbm := (congrArg (fun q => q.2.1) hm).symm
    rw [e9] at K
    have e9 : y_mgm = mgm := (congrArg (fun q => q.2.2.1) hm).symm
    rw [e9] at K
    have e9 : y_mgr = mgr := (congrArg (fun q => q.2.2.2) hm).symm
    rw [e9] at K
    exact K 8 ls _ _ dX8_boxes_8 hP hD hS
set_option maxHeartbeats 4000000 in
set_option maxRecDepth 100000 in
theorem tX8_boxes (l : Launch) {D : va_G} (sz : Nat) {n : Nat} {a1 : Int32} {a2 : Int32} {r : Int32} {y_mbm : (Int32)} {y_mgm : (Int32)} {y_mgr : (Nat → Int64)} (hm : mX8_boxes n mbm mgm mgr mw mt mpi a1 a2 = some (r, y_mbm, y_mgm, y_mgr)) : Met l yX8_boxes (.code yX8_boxes cX8_boxes 3 (some .int) :: tw) ({ frames := 5, cells := 0, slots := 0, locals := 134 } : Room) (wrP D [.ref oM, .int a1, .int a2] (wdM cJ cI oM oM1 oM2 oM3 oM4 oM5 oM6 oM7 oM8 oM9 oM10 oM11 mw mt mrim mjn mhm mpn mbm mgm mpi mst mam mac mro mbe mhi mmi mgr mtr mle) [(cI, .int), (cJ, .long)] sz) (va_Qi (fun q (_ : Unit) => q = r) (fun (_ : Unit) (t : State) => va_P D vwCl (wdM cJ cI oM oM1 oM2 oM3 oM4 oM5 oM6 oM7 oM8 oM9 oM10 oM11 mw mt mrim mjn mhm mpn y_mbm y_mgm mpi mst mam mac mro mbe mhi mmi y_mgr mtr mle) t.heap ∧ va_K D vwCl [(cI, .int), (cJ, .long)] t ∧ va_D (va_A (wdM cJ cI oM oM1 oM2 oM3 oM4 oM5 oM6 oM7 oM8 oM9 oM10 oM11 mw mt mrim mjn mhm mpn mbm mgm mpi mst mam mac mro mbe mhi mmi mgr mtr mle) sz) (wdM cJ cI oM oM1 oM2 oM3 oM4 oM5 oM6 oM7 oM8 oM9 oM10 oM11 mw mt mrim mjn mhm mpn y_mbm y_mgm mpi mst mam mac mro mbe mhi mmi y_mgr mtr mle)) (va_A (wdM cJ cI oM oM1 oM2 oM3 oM4 oM5 oM6 oM7 oM8 oM9 oM10 oM11 mw mt mrim mjn mhm mpn mbm mgm mpi mst mam mac mro mbe mhi mmi mgr mtr mle) sz)) 0 0 (va_A (wdM cJ cI oM oM1 oM2 oM3 oM4 oM5 oM6 oM7 oM8 oM9 oM10 oM11 mw mt mrim mjn mhm mpn mbm mgm mpi mst mam mac mro mbe mhi mmi mgr mtr mle) sz) := by
  refine Met.ofW (cc := cX8_boxes) (maxL := 3) (ret := (some .int)) (by decide) rfl ?_
  intro p e s m args below meth c s₁ B hml hv
  obtain ⟨rfl, hsz, hP, hK, hD0⟩ := hv
  have hx := B.exec
  have hb := B.bytes
  have hr := B.returns
  have hts : ∀ w ∈ tw, w.before _ s = true := fun w h => atoms_spec (ws := .code yX8_boxes cX8_boxes 3 (some .int) :: tw) B.pre w (List.mem_cons_of_mem _ h)
  have hown : s.vm.findClass RX8 = some m.cls := findClass_of_methodNamed B.named
  have hlocks := B.notSynchronized
  subst hsz
  have hD := hD0.self (sz := s.heap.size)
  have hl := lv_entry ([.ref oM, .int a1, .int a2]) (n := 3) (Nat.le_of_ble_eq_true rfl)
  rw [lg_entry_eq]
  generalize (lg_sl ([.ref oM, .int a1, .int a2]) ++ List.replicate (3 - (lg_sl ([.ref oM, .int a1, .int a2])).length) Slot.unset).toArray = ls at hl ⊢
  refine bX8_boxes hx hb hml hown hts hK (fun q h => Or.inr h) ⟨Nat.le_of_ble_eq_true rfl, Nat.le_of_ble_eq_true rfl, Nat.zero_le _, Nat.zero_le _⟩ hm ls hl hP hD va_S.rf (fun pc ls H locs hd hP hD hS => ?_)
  exact W.iret hx hb hr (fun t ht hW => ⟨⟨r, (), rfl, rfl, by rw [ht]; exact hP, va_K.moved hW.alike hK, hD⟩, hS.F ht⟩) hS.2.2 hd
set_option maxHeartbeats 4000000 in
set_option maxRecDepth 100000 in
theorem kX8_boxes {own : String} {cc : ByteArray} {nL idx pc : Nat} {ls : Array Slot} {rest : List Value} {ws wr : va_W} {n : Nat} {a1 : Int32} {a2 : Int32} {r : Int32} {y_mbm : (Int32)} {y_mgm : (Int32)} {y_mgr : (Nat → Int64)} (fx : CallFix p m c cc nL s args tw own) (hq : Cond.methodLink own idx yX8_boxes ∈ tw) (isC isR : List Nat) (hC : isC.map (fun i => ws[i]?) = ((wdM cJ cI oM oM1 oM2 oM3 oM4 oM5 oM6 oM7 oM8 oM9 oM10 oM11 mw mt mrim mjn mhm mpn mbm mgm mpi mst mam mac mro mbe mhi mmi mgr mtr mle) : va_W).map some) (hRr : isR.map (fun i => ws[i]?) = wr.map some) (hnC : va_nd isC = true) (hn : va_nd isR = true) (hdis : ∀ i ∈ isR, i ∉ isC) (hK : va_K D vwCl [(cI, .int), (cJ, .long)] s) (hm : mX8_boxes n mbm mgm mgr mw mt mpi a1 a2 = some (r, y_mbm, y_mgm, y_mgr)) (hsz : ls.size = nL) (hR : 6 ≤ R.frames ∧ 156 ≤ R.locals ∧ cells ≤ R.cells ∧ slots ≤ R.slots) (hst : (rest.map fun v => v.category).sum ≤ 8) (hd : decode cc pc = .ok (.invokevirtual idx, 3)) (hP : va_P D vwCl ws H) (hD : va_D A ws) (hS : va_S A s.heap H locs) (hA : ∀ q, s.heap.size ≤ q → A q) (kk : ∀ (H : Heap) (locs : List Loc), va_P D vwCl (wr ++ (wdM cJ cI oM oM1 oM2 oM3 oM4 oM5 oM6 oM7 oM8 oM9 oM10 oM11 mw mt mrim mjn mhm mpn y_mbm y_mgm mpi mst mam mac mro mbe mhi mmi y_mgr mtr mle)) H → va_D A (wr ++ (wdM cJ cI oM oM1 oM2 oM3 oM4 oM5 oM6 oM7 oM8 oM9 oM10 oM11 mw mt mrim mjn mhm mpn y_mbm y_mgm mpi mst mam mac mro mbe mhi mmi y_mgr mtr mle)) → va_S A s.heap H locs → W p l e R s m args below meth c H locs cells slots Q (F0 m (pc + 3) ls (.int r :: rest))) : W p l e R s m args below meth c H locs cells slots Q (F0 m pc ls (.int a2 :: .int a1 :: .ref oM :: rest)) := by
  have hPc := va_P.subM hP isC hC
  have hDc := hD.sub isC hnC hC
  have hFc := va_free (wc := (wdM cJ cI oM oM1 oM2 oM3 oM4 oM5 oM6 oM7 oM8 oM9 oM10 oM11 mw mt mrim mjn mhm mpn mbm mgm mpi mst mam mac mro mbe mhi mmi mgr mtr mle)) hD hS hA isC hC
  refine va_calli (va_runV (As := [.int a1, .int a2]) (rest := rest) fx (tX8_boxes l H.size hm) (cwV 2 fx.2.2.2.2 (tw_V hq qw_535 qw_536 qw_53 qw_537) rfl rfl rfl (by decide +kernel) ⟨hR.1, hR.2.1⟩) ⟨wrP_bl, va_recv hK hPc (ci := 8) (q0 := 0) rfl rfl, wrP_ok hPc hK hDc⟩ rfl rfl hsz rfl (lv_room hst) hd ⟨hR.2.2.1, hR.2.2.2⟩) hS (fun q _ h => hFc q h) hFc (fun r9 u t H1 locs ht hvm hw hB hz1 hk1 hS => ?_)
  obtain ⟨hP1, hK1, hD1⟩ := hB
  rw [ht] at hP1
  rw [hw]
  obtain ⟨hP2, hD2⟩ := va_join (wr := wr) (w1 := (wdM cJ cI oM oM1 oM2 oM3 oM4 oM5 oM6 oM7 oM8 oM9 oM10 oM11 mw mt mrim mjn mhm mpn y_mbm y_mgm mpi mst mam mac mro mbe mhi mmi y_mgr mtr mle)) hP hD isC isR hC hRr hn hdis hk1 hFc hP1 hD1
  exact kk H1 locs hP2 hD2 hS
-- X8_greatest
def mX8_greatest_L39 (n : Nat) (mgm : Int32) (mgr : Nat → Int64) : Nat → (Int64) → (Int32) → Option ((Int64))
  | 0, _, _ => none
  | k + 1, v3, v5 => (if mgm ≤ v5 then some (v3) else gd (ib v5 800) (jb (mX8_many n (mgr v5.toNatClampNeg)) (fun (r14 : Int32) => jb (mX8_many n v3) (fun (r16 : Int32) => jb (if r14 ≤ r16 then (some (v3)) else gd (ib v5 800) ((some ((mgr v5.toNatClampNeg))))) (fun (j18 : Int64) => mX8_greatest_L39 n mgm mgr k j18 (v5 + (1 : Int32)))))))
def mX8_greatest (n : Nat) (mbm : Int32) (mgm : Int32) (mgr : Nat → Int64) (mw : Int32) (mt : Int32) (mpi : Nat → Int64) (a1 : Int32) (a2 : Int32) : Option (Int32 × (Int32) × (Int32) × (Nat → Int64)) :=
  (if (mX8_isPicture a1) = 0 then (some ((-1 : Int32), mbm, mgm, mgr)) else (if (mX8_in ((a2).toInt64) (0 : Int64) (2 : Int64)) = 0 then (some ((-2 : Int32), mbm, mgm, mgr)) else gd (ib a1 5) (jb3 (mX8_layBoxes n mw mt mgr (mpi a1.toNatClampNeg)) (fun (y8 : Int32) (y9 : Int32) (y10 : Nat → Int64) => jb (mX8_greatest_L39 n y9 y10 n (0 : Int64) (0 : Int32)) (fun (y23 : Int64) => (if y23 = (0 : Int64) then (some ((-9 : Int32), y8, y9, y10)) else (if a2 = 0 then jb (mX8_firstOf n y23) (fun (r32 : Int32) => (some (r32, y8, y9, y10))) else (if a2 = (1 : Int32) then jb (mX8_lastOf n y23) (fun (r30 : Int32) => (some (r30, y8, y9, y10))) else jb (mX8_many n y23) (fun (r28 : Int32) => (some (r28, y8, y9, y10)))))))))))
theorem dX8_greatest_0 : decode cX8_greatest 0 = .ok (.iload_n 1, 1) := by decide +kernel
theorem dX8_greatest_1 : decode cX8_greatest 1 = .ok (.invokestatic 71, 3) := by decide +kernel
theorem dX8_greatest_4 : decode cX8_greatest 4 = .ok (.ifCond .ne 5, 3) := by decide +kernel
theorem dX8_greatest_7 : decode cX8_greatest 7 = .ok (.iconst (-1), 1) := by decide +kernel
theorem dX8_greatest_8 : decode cX8_greatest 8 = .ok (.ireturn, 1) := by decide +kernel
theorem dX8_greatest_9 : decode cX8_greatest 9 = .ok (.iload_n 2, 1) := by decide +kernel
theorem dX8_greatest_10 : decode cX8_greatest 10 = .ok (.i2l, 1) := by decide +kernel
theorem dX8_greatest_11 : decode cX8_greatest 11 = .ok (.lconst 0, 1) := by decide +kernel
theorem dX8_greatest_12 : decode cX8_greatest 12 = .ok (.ldc2_w 67, 3) := by decide +kernel
theorem dX8_greatest_15 : decode cX8_greatest 15 = .ok (.invokestatic 63, 3) := by decide +kernel
theorem dX8_greatest_18 : decode cX8_greatest 18 = .ok (.ifCond .ne 6, 3) := by decide +kernel
theorem dX8_greatest_21 : decode cX8_greatest 21 = .ok (.bipush (-2), 2) := by decide +kernel
theorem dX8_greatest_23 : decode cX8_greatest 23 = .ok (.ireturn, 1) := by decide +kernel
theorem dX8_greatest_24 : decode cX8_greatest 24 = .ok (.aload_n 0, 1) := by decide +kernel
theorem dX8_greatest_25 : decode cX8_greatest 25 = .ok (.aload_n 0, 1) := by decide +kernel
theorem dX8_greatest_26 : decode cX8_greatest 26 = .ok (.getfield 16, 3) := by decide +kernel
theorem dX8_greatest_29 : decode cX8_greatest 29 = .ok (.iload_n 1, 1) := by decide +kernel
theorem dX8_greatest_30 : decode cX8_greatest 30 = .ok (.laload, 1) := by decide +kernel
theorem dX8_greatest_31 : decode cX8_greatest 31 = .ok (.invokevirtual 178, 3) := by decide +kernel
theorem dX8_greatest_34 : decode cX8_greatest 34 = .ok (.lconst 0, 1) := by decide +kernel
theorem dX8_greatest_35 : decode cX8_greatest 35 = .ok (.lstore_n 3, 1) := by decide +kernel
theorem dX8_greatest_36 : decode cX8_greatest 36 = .ok (.iconst 0, 1) := by decide +kernel
theorem dX8_greatest_37 : decode cX8_greatest 37 = .ok (.istore 5, 2) := by decide +kernel
theorem dX8_greatest_39 : decode cX8_greatest 39 = .ok (.iload 5, 2) := by decide +kernel
theorem dX8_greatest_41 : decode cX8_greatest 41 = .ok (.aload_n 0, 1) := by decide +kernel
theorem dX8_greatest_42 : decode cX8_greatest 42 = .ok (.getfield 172, 3) := by decide +kernel
theorem dX8_greatest_45 : decode cX8_greatest 45 = .ok (.if_icmp .ge 38, 3) := by decide +kernel
theorem dX8_greatest_48 : decode cX8_greatest 48 = .ok (.aload_n 0, 1) := by decide +kernel
theorem dX8_greatest_49 : decode cX8_greatest 49 = .ok (.getfield 48, 3) := by decide +kernel
theorem dX8_greatest_52 : decode cX8_greatest 52 = .ok (.iload 5, 2) := by decide +kernel
theorem dX8_greatest_54 : decode cX8_greatest 54 = .ok (.laload, 1) := by decide +kernel
theorem dX8_greatest_55 : decode cX8_greatest 55 = .ok (.invokestatic 88, 3) := by decide +kernel
theorem dX8_greatest_58 : decode cX8_greatest 58 = .ok (.lload_n 3, 1) := by decide +kernel
theorem dX8_greatest_59 : decode cX8_greatest 59 = .ok (.invokestatic 88, 3) := by decide +kernel
theorem dX8_greatest_62 : decode cX8_greatest 62 = .ok (.if_icmp .le 13, 3) := by decide +kernel
theorem dX8_greatest_65 : decode cX8_greatest 65 = .ok (.aload_n 0, 1) := by decide +kernel
theorem dX8_greatest_66 : decode cX8_greatest 66 = .ok (.getfield 48, 3) := by decide +kernel
theorem dX8_greatest_69 : decode cX8_greatest 69 = .ok (.iload 5, 2) := by decide +kernel
theorem dX8_greatest_71 : decode cX8_greatest 71 = .ok (.laload, 1) := by decide +kernel
theorem dX8_greatest_72 : decode cX8_greatest 72 = .ok (.goto 4, 3) := by decide +kernel
theorem dX8_greatest_75 : decode cX8_greatest 75 = .ok (.lload_n 3, 1) := by decide +kernel
theorem dX8_greatest_76 : decode cX8_greatest 76 = .ok (.lstore_n 3, 1) := by decide +kernel
theorem dX8_greatest_77 : decode cX8_greatest 77 = .ok (.iinc 5 1, 3) := by decide +kernel
theorem dX8_greatest_80 : decode cX8_greatest 80 = .ok (.goto (-41), 3) := by decide +kernel
theorem dX8_greatest_83 : decode cX8_greatest 83 = .ok (.lload_n 3, 1) := by decide +kernel
theorem dX8_greatest_84 : decode cX8_greatest 84 = .ok (.lconst 0, 1) := by decide +kernel
theorem dX8_greatest_85 : decode cX8_greatest 85 = .ok (.lcmp, 1) := by decide +kernel
theorem dX8_greatest_86 : decode cX8_greatest 86 = .ok (.ifCond .ne 8, 3) := by decide +kernel
theorem dX8_greatest_89 : decode cX8_greatest 89 = .ok (.bipush (-9), 2) := by decide +kernel
theorem dX8_greatest_91 : decode cX8_greatest 91 = .ok (.goto 30, 3) := by decide +kernel
theorem dX8_greatest_94 : decode cX8_greatest 94 = .ok (.iload_n 2, 1) := by decide +kernel
theorem dX8_greatest_95 : decode cX8_greatest 95 = .ok (.ifCond .ne 10, 3) := by decide +kernel
theorem dX8_greatest_98 : decode cX8_greatest 98 = .ok (.lload_n 3, 1) := by decide +kernel
theorem dX8_greatest_99 : decode cX8_greatest 99 = .ok (.invokestatic 139, 3) := by decide +kernel
theorem dX8_greatest_102 : decode cX8_greatest 102 = .ok (.goto 19, 3) := by decide +kernel
theorem dX8_greatest_105 : decode cX8_greatest 105 = .ok (.iload_n 2, 1) := by decide +kernel
theorem dX8_greatest_106 : decode cX8_greatest 106 = .ok (.iconst 1, 1) := by decide +kernel
theorem dX8_greatest_107 : decode cX8_greatest 107 = .ok (.if_icmp .ne 10, 3) := by decide +kernel
theorem dX8_greatest_110 : decode cX8_greatest 110 = .ok (.lload_n 3, 1) := by decide +kernel
theorem dX8_greatest_111 : decode cX8_greatest 111 = .ok (.invokestatic 182, 3) := by decide +kernel
theorem dX8_greatest_114 : decode cX8_greatest 114 = .ok (.goto 7, 3) := by decide +kernel
theorem dX8_greatest_117 : decode cX8_greatest 117 = .ok (.lload_n 3, 1) := by decide +kernel
theorem dX8_greatest_118 : decode cX8_greatest 118 = .ok (.invokestatic 88, 3) := by decide +kernel
theorem dX8_greatest_121 : decode cX8_greatest 121 = .ok (.ireturn, 1) := by decide +kernel
set_option maxHeartbeats 4000000 in
set_option maxRecDepth 100000 in
theorem wX8_greatest_L39 {n : Nat} {v2 : Int32} (hx : p.tables.exec = Jvm.exec) (hb : c.code = cX8_greatest) (hml : c.maxLocals = 6) (hown : s.vm.findClass RX8 = some m.cls) (hts : ∀ w ∈ tw, w.before args s = true) (hK : va_K D vwCl [(cI, .int), (cJ, .long)] s) (hP : va_P D vwCl (wdM cJ cI oM oM1 oM2 oM3 oM4 oM5 oM6 oM7 oM8 oM9 oM10 oM11 mw mt mrim mjn mhm mpn mbm mgm mpi mst mam mac mro mbe mhi mmi mgr mtr mle) H) (hA : ∀ q, s.heap.size ≤ q → A q) (hS : va_S A s.heap H locs) (hR : 5 ≤ R.frames ∧ 134 ≤ R.locals ∧ cells ≤ R.cells ∧ slots ≤ R.slots) : ∀ (k : Nat) (v3 : Int64) (v5 : Int32) (x3 : Int64), mX8_greatest_L39 n mgm mgr k v3 v5 = some (x3) → ∀ ls : Array Slot, lv_has ls 6 [(0, .ref oM), (2, .int v2), (3, .long v3), (5, .int v5)] → (∀ ls : Array Slot, lv_has ls 6 [(3, .long x3), (2, .int v2)] → W p l e R s m args below meth c H locs cells slots Q (F0 m 83 ls [])) → W p l e R s m args below meth c H locs cells slots Q (F0 m 39 ls []) := by
  intro k
  induction k with
  | zero => intro v3 v5 x3 hm; rw [mX8_greatest_L39] at hm; cases hm
  | succ k ih =>
    intro v3 v5 x3 hm ls hl K0
    rw [mX8_greatest_L39] at hm
    refine lv_iload hx hb dX8_greatest_39 (lv_at hl 3 rfl) ?_
    refine lv_aload_n hx hb dX8_greatest_41 rfl (lv_at hl 0 rfl) ?_
    refine va_get (D := D) (ci := 8) (v := .int mgm) (C := RX8) (T := TX8) (N := 19) hx hb hts tnX8 hown hK hP 0 rfl rfl 15 (by decide) (hts _ qw_528) (fun _ h9 => h9) rfl dX8_greatest_42 ?_
    refine lv_icmp_ge (tgt := 83) hx hb dX8_greatest_45 (by decide) (fun c12 => ?_) (fun c12 => ?_)
    · rw [if_pos c12] at hm
      have hm := Option.some.inj hm
      have e9 : x3 = v3 := (congrArg (fun q => q) hm).symm
      rw [e9] at K0
      exact K0 ls (lv_sub hl [2, 1] rfl)
    · rw [if_neg c12] at hm
      refine lv_aload_n hx hb dX8_greatest_48 rfl (lv_at hl 0 rfl) ?_
      refine va_get (D := D) (ci := 8) (v := .ref oM9) (C := RX8) (T := TX8) (N := 19) hx hb hts tnX8 hown hK hP 0 rfl rfl 16 (by decide) (hts _ qw_530) (fun _ h9 => h9) rfl dX8_greatest_49 ?_
      refine lv_iload hx hb dX8_greatest_52 (lv_at hl 3 rfl) ?_
      obtain ⟨g13, hm⟩ := gd_out hm
      refine va_lald hx hb hK hP 9 1 rfl rfl g13 dX8_greatest_54 ?_
      obtain ⟨r14, h15, hm⟩ := jb_out hm
      refine kX8_many ⟨hx, hb, hml, hown, hts⟩ qw_112 h15 hl.1 ⟨Nat.le_trans (by decide) hR.1, Nat.le_trans (by decide) hR.2.1, hR.2.2⟩ (Nat.le_of_ble_eq_true rfl) dX8_greatest_55 ?_
      refine lv_lload_n hx hb dX8_greatest_58 rfl (lv_at hl 2 rfl) ?_
      obtain ⟨r16, h17, hm⟩ := jb_out hm
      refine kX8_many ⟨hx, hb, hml, hown, hts⟩ qw_112 h17 hl.1 ⟨Nat.le_trans (by decide) hR.1, Nat.le_trans (by decide) hR.2.1, hR.2.2⟩ (Nat.le_of_ble_eq_true rfl) dX8_greatest_59 ?_
      obtain ⟨j18, hi19, hm⟩ := jb_out hm
      have key20 : ∀ (ls : Array Slot), lv_has ls 6 [(0, .ref oM), (2, .int v2), (5, .int v5)] → W p l e R s m args below meth c H locs cells slots Q (F0 m 76 ls [.long j18]) := by
        intro ls hl
        refine lv_lstore_n (lv' := [(3, .long j18), (0, .ref oM), (2, .int v2), (5, .int v5)]) hx hb dX8_greatest_76 rfl hl (by decide) rfl (fun ls hl => ?_)
        refine lv_iinc (v := (v5 + (1 : Int32))) (lv' := [(5, .int (v5 + (1 : Int32))), (3, .long j18), (0, .ref oM), (2, .int v2)]) hx hb dX8_greatest_77 hl (k := 3) rfl (by rfl) (by decide) rfl (fun ls hl => ?_)
        refine lv_goto (tgt := 39) hx hb dX8_greatest_80 (by decide) ?_
        exact ih _ _ _ hm ls (lv_sub hl [2, 3, 1, 0] rfl) K0
      refine lv_icmp_le (tgt := 75) hx hb dX8_greatest_62 (by decide) (fun c21 => ?_) (fun c21 => ?_)
      · rw [if_pos c21] at hi19
        refine lv_lload_n hx hb dX8_greatest_75 rfl (lv_at hl 2 rfl) ?_
        have hi19 := Option.some.inj hi19
        have e9 : j18 = v3 := (congrArg (fun q => q) hi19).symm
        rw [e9] at key20
        exact key20 ls (lv_sub hl [0, 1, 3] rfl)
      · rw [if_neg c21] at hi19
        refine lv_aload_n hx hb dX8_greatest_65 rfl (lv_at hl 0 rfl) ?_
        refine va_get (D := D) (ci := 8) (v := .ref oM9) (C := RX8) (T := TX8) (N := 19) hx hb hts tnX8 hown hK hP 0 rfl rfl 16 (by decide) (hts _ qw_530) (fun _ h9 => h9) rfl dX8_greatest_66 ?_
        refine lv_iload hx hb dX8_greatest_69 (lv_at hl 3 rfl) ?_
        obtain ⟨g22, hi19⟩ := gd_out hi19
        refine va_lald hx hb hK hP 9 1 rfl rfl g22 dX8_greatest_71 ?_
        refine lv_goto (tgt := 76) hx hb dX8_greatest_72 (by decide) ?_
        have hi19 := Option.some.inj hi19
        have e9 : j18 = (mgr v5.toNatClampNeg) := (congrArg (fun q => q) hi19).symm
        rw [e9] at key20
        exact key20 ls (lv_sub hl [0, 1, 3] rfl)
set_option maxHeartbeats 4000000 in
set_option maxRecDepth 100000 in
theorem bX8_greatest {n : Nat} {a1 : Int32} {a2 : Int32} {r : Int32} {y_mbm : (Int32)} {y_mgm : (Int32)} {y_mgr : (Nat → Int64)} (hx : p.tables.exec = Jvm.exec) (hb : c.code = cX8_greatest) (hml : c.maxLocals = 6) (hown : s.vm.findClass RX8 = some m.cls) (hts : ∀ w ∈ tw, w.before args s = true) (hK : va_K D vwCl [(cI, .int), (cJ, .long)] s) (hA : ∀ q, s.heap.size ≤ q → A q) (hR : 5 ≤ R.frames ∧ 134 ≤ R.locals ∧ cells ≤ R.cells ∧ slots ≤ R.slots) (hm : mX8_greatest n mbm mgm mgr mw mt mpi a1 a2 = some (r, y_mbm, y_mgm, y_mgr)) (ls : Array Slot) (hl : lv_has ls 6 [(0, .ref oM), (1, .int a1), (2, .int a2)]) (hP : va_P D vwCl (wdM cJ cI oM oM1 oM2 oM3 oM4 oM5 oM6 oM7 oM8 oM9 oM10 oM11 mw mt mrim mjn mhm mpn mbm mgm mpi mst mam mac mro mbe mhi mmi mgr mtr mle) H) (hD : va_D A (wdM cJ cI oM oM1 oM2 oM3 oM4 oM5 oM6 oM7 oM8 oM9 oM10 oM11 mw mt mrim mjn mhm mpn mbm mgm mpi mst mam mac mro mbe mhi mmi mgr mtr mle)) (hS : va_S A s.heap H locs) (K : ∀ (pc : Nat) (ls : Array Slot) (H : Heap) (locs : List Loc), decode cX8_greatest pc = .ok (.ireturn, 1) → va_P D vwCl (wdM cJ cI oM oM1 oM2 oM3 oM4 oM5 oM6 oM7 oM8 oM9 oM10 oM11 mw mt mrim mjn mhm mpn y_mbm y_mgm mpi mst mam mac mro mbe mhi mmi y_mgr mtr mle) H → va_D A (wdM cJ cI oM oM1 oM2 oM3 oM4 oM5 oM6 oM7 oM8 oM9 oM10 oM11 mw mt mrim mjn mhm mpn y_mbm y_mgm mpi mst mam mac mro mbe mhi mmi y_mgr mtr mle) → va_S A s.heap H locs → W p l e R s m args below meth c H locs cells slots Q (F0 m pc ls [.int r])) : W p l e R s m args below meth c H locs cells slots Q (F0 m 0 ls []) := by
  unfold mX8_greatest at hm
  refine lv_iload_n hx hb dX8_greatest_0 rfl (lv_at hl 1 rfl) ?_
  refine kX8_isPicture ⟨hx, hb, hml, hown, hts⟩ qw_101 hl.1 ⟨Nat.le_trans (by decide) hR.1, Nat.le_trans (by decide) hR.2.1, hR.2.2⟩ (Nat.le_of_ble_eq_true rfl) dX8_greatest_1 ?_
  refine lv_if_ne (tgt := 9) hx hb dX8_greatest_4 (by decide) (fun c2 => ?_) (fun c2 => ?_)
  · rw [if_neg c2] at hm
    refine lv_iload_n hx hb dX8_greatest_9 rfl (lv_at hl 2 rfl) ?_
    refine lv_i2l (v := ((a2).toInt64)) hx hb dX8_greatest_10 rfl ?_
    refine lv_lconst (v := (0 : Int64)) hx hb dX8_greatest_11 (by decide) ?_
    refine lv_ldc2 (v := (2 : Int64)) hx hb hown (hts _ qw_116) dX8_greatest_12 ?_
    refine kX8_in ⟨hx, hb, hml, hown, hts⟩ qw_65 hl.1 ⟨Nat.le_trans (by decide) hR.1, Nat.le_trans (by decide) hR.2.1, hR.2.2⟩ (Nat.le_of_ble_eq_true rfl) dX8_greatest_15 ?_
    refine lv_if_ne (tgt := 24) hx hb dX8_greatest_18 (by decide) (fun c4 => ?_) (fun c4 => ?_)
    · rw [if_neg c4] at hm
      refine lv_aload_n hx hb dX8_greatest_24 rfl (lv_at hl 0 rfl) ?_
      refine lv_aload_n hx hb dX8_greatest_25 rfl (lv_at hl 0 rfl) ?_
      refine va_get (D := D) (ci := 8) (v := .ref oM1) (C := RX8) (T := TX8) (N := 19) hx hb hts tnX8 hown hK hP 0 rfl rfl 2 (by decide) (hts _ qw_103) (fun _ h9 => h9) rfl dX8_greatest_26 ?_
      refine lv_iload_n hx hb dX8_greatest_29 rfl (lv_at hl 1 rfl) ?_
      obtain ⟨g5, hm⟩ := gd_out hm
      refine va_lald hx hb hK hP 1 1 rfl rfl g5 dX8_greatest_30 ?_
      obtain ⟨y8, y9, y10, h7, hm⟩ := jb_out3 hm
      refine kX8_layBoxes (ws := (wdM cJ cI oM oM1 oM2 oM3 oM4 oM5 oM6 oM7 oM8 oM9 oM10 oM11 mw mt mrim mjn mhm mpn mbm mgm mpi mst mam mac mro mbe mhi mmi mgr mtr mle)) (wr := []) ⟨hx, hb, hml, hown, hts⟩ qw_534 [0, 1, 2, 3, 4, 5, 6, 7, 8, 9, 10, 11] [] rfl rfl (by decide) (by decide) (by decide) hK h7 hl.1 ⟨Nat.le_trans (by decide) hR.1, Nat.le_trans (by decide) hR.2.1, hR.2.2⟩ (Nat.le_of_ble_eq_true rfl) dX8_greatest_31 hP hD hS hA (fun H locs hP hD hS => ?_)
      have hP : va_P D vwCl (wdM cJ cI oM oM1 oM2 oM3 oM4 oM5 oM6 oM7 oM8 oM9 oM10 oM11 mw mt mrim mjn mhm mpn y8 y9 mpi mst mam mac mro mbe mhi mmi y10 mtr mle) H := hP.sub [0, 1, 2, 3, 4, 5, 6, 7, 8, 9, 10, 11] rfl
      have hD : va_D A (wdM cJ cI oM oM1 oM2 oM3 oM4 oM5 oM6 oM7 oM8 oM9 oM10 oM11 mw mt mrim mjn mhm mpn y8 y9 mpi mst mam mac mro mbe mhi mmi y10 mtr mle) := hD.sub [0, 1, 2, 3, 4, 5, 6, 7, 8, 9, 10, 11] (by decide) rfl
      refine lv_lconst (v := (0 : Int64)) hx hb dX8_greatest_34 (by decide) ?_
      refine lv_lstore_n (lv' := [(3, .long (0 : Int64)), (0, .ref oM), (1, .int a1), (2, .int a2)]) hx hb dX8_greatest_35 rfl hl (by decide) rfl (fun ls hl => ?_)
      refine lv_iconst (v := (0 : Int32)) hx hb dX8_greatest_36 (by decide) ?_
      refine lv_istore (lv' := [(5, .int (0 : Int32)), (3, .long (0 : Int64)), (0, .ref oM), (1, .int a1), (2, .int a2)]) hx hb dX8_greatest_37 hl (by decide) rfl (fun ls hl => ?_)
      obtain ⟨y23, h24, hm⟩ := jb_out hm
      refine wX8_greatest_L39 hx hb hml hown hts hK hP hA hS hR n _ _ _  h24 ls (lv_sub hl [2, 4, 1, 0] rfl) (fun ls hl => ?_)
      refine lv_lload_n hx hb dX8_greatest_83 rfl (lv_at hl 0 rfl) ?_
      refine lv_lconst (v := (0 : Int64)) hx hb dX8_greatest_84 (by decide) ?_
      refine W.lcmp hx hb dX8_greatest_85 ?_
      refine lv_if_ne (tgt := 94) hx hb dX8_greatest_86 (by decide) (fun c25 => ?_) (fun c25 => ?_)
      · have c25 := fun h9 => c25 ((lg_cmp_eq y23 (0 : Int64)).mpr h9)
        rw [if_neg c25] at hm
        refine lv_iload_n hx hb dX8_greatest_94 rfl (lv_at hl 1 rfl) ?_
        refine lv_if_ne (tgt := 105) hx hb dX8_greatest_95 (by decide) (fun c26 => ?_) (fun c26 => ?_)
        · rw [if_neg c26] at hm
          refine lv_iload_n hx hb dX8_greatest_105 rfl (lv_at hl 1 rfl) ?_
          refine lv_iconst (v := (1 : Int32)) hx hb dX8_greatest_106 (by decide) ?_
          refine lv_icmp_ne (tgt := 117) hx hb dX8_greatest_107 (by decide) (fun c27 => ?_) (fun c27 => ?_)
          · rw [if_neg c27] at hm
            refine lv_lload_n hx hb dX8_greatest_117 rfl (lv_at hl 0 rfl) ?_
            obtain ⟨r28, h29, hm⟩ := jb_out hm
            refine kX8_many ⟨hx, hb, hml, hown, hts⟩ qw_112 h29 hl.1 ⟨Nat.le_trans (by decide) hR.1, Nat.le_trans (by decide) hR.2.1, hR.2.2⟩ (Nat.le_of_ble_eq_true rfl) dX8_greatest_118 ?_
            have hm := Option.some.inj hm
            have e9 : r = r28 := (congrArg (fun q => q.1) hm).symm
            rw [e9] at K
            have e9 : y_mbm = y8 := (congrArg (fun q => q.2.1) hm).symm
            rw [e9] at K
            have e9 : y_mgm = y9 := (congrArg (fun q => q.2.2.1) hm).symm
            rw [e9] at K
            have e9 : y_mgr = y10 := (congrArg (fun q => q.2.2.2) hm).symm
            rw [e9] at K
            exact K 121 ls _ _ dX8_greatest_121 hP hD hS
          · rw [if_pos c27] at hm
            refine lv_lload_n hx hb dX8_greatest_110 rfl (lv_at hl 0 rfl) ?_
            obtain ⟨r30, h31, hm⟩ := jb_out hm
            refine kX8_lastOf ⟨hx, hb, hml, hown, hts⟩ qw_538 h31 hl.1 ⟨Nat.le_trans (by decide) hR.1, Nat.le_trans (by decide) hR.2.1, hR.2.2⟩ (Nat.le_of_ble_eq_true rfl) dX8_greatest_111 ?_
            refine lv_goto (tgt := 121) hx hb dX8_greatest_114 (by decide) ?_
            have hm := Option.some.inj hm
            have e9 : r = r30 := (congrArg (fun q => q.1) hm).symm
            rw [e9] at K
            have e9 : y_mbm = y8 := (congrArg (fun q => q.2.1) hm).symm
            rw [e9] at K
            have e9 : y_mgm = y9 := (congrArg (fun q => q.2.2.1) hm).symm
            rw [e9] at K
            have e9 : y_mgr = y10 := (congrArg (fun q => q.2.2.2) hm).symm
            rw [e9] at K
            exact K 121 ls _ _ dX8_greatest_121 hP hD hS
        · rw [if_pos c26] at hm
          refine lv_lload_n hx hb dX8_greatest_98 rfl (lv_at hl 0 rfl) ?_
          obtain ⟨r32, h33, hm⟩ := jb_out hm
          refine kX8_firstOf ⟨hx, hb, hml, hown, hts⟩ qw_139 h33 hl.1 ⟨Nat.le_trans (by decide) hR.1, Nat.le_trans (by decide) hR.2.1, hR.2.2⟩ (Nat.le_of_ble_eq_true rfl) dX8_greatest_99 ?_
          refine lv_goto (tgt := 121) hx hb dX8_greatest_102 (by decide) ?_
          have hm := Option.some.inj hm
          have e9 : r = r32 := (congrArg (fun q => q.1) hm).symm
          rw [e9] at K
          have e9 : y_mbm = y8 := (congrArg (fun q => q.2.1) hm).symm
          rw [e9] at K
          have e9 : y_mgm = y9 := (congrArg (fun q => q.2.2.1) hm).symm
          rw [e9] at K
          have e9 : y_mgr = y10 := (congrArg (fun q => q.2.2.2) hm).symm
          rw [e9] at K
          exact K 121 ls _ _ dX8_greatest_121 hP hD hS
      · have c25 := (lg_cmp_eq y23 (0 : Int64)).mp c25
        rw [if_pos c25] at hm
        refine lv_bipush (v := (-9 : Int32)) hx hb dX8_greatest_89 (by decide) ?_
        refine lv_goto (tgt := 121) hx hb dX8_greatest_91 (by decide) ?_
        have hm := Option.some.inj hm
        have e9 : r = (-9 : Int32) := (congrArg (fun q => q.1) hm).symm
        rw [e9] at K
        have e9 : y_mbm = y8 := (congrArg (fun q => q.2.1) hm).symm
        rw [e9] at K
        have e9 : y_mgm = y9 := (congrArg (fun q => q.2.2.1) hm).symm
        rw [e9] at K
        have e9 : y_mgr = y10 := (congrArg (fun q => q.2.2.2) hm).symm
        rw [e9] at K
        exact K 121 ls _ _ dX8_greatest_121 hP hD hS
    · rw [if_pos c4] at hm
      refine lv_bipush (v := (-2 : Int32)) hx hb dX8_greatest_21 (by decide) ?_
      have hm := Option.some.inj hm
      have e9 : r = (-2 : Int32) := (congrArg (fun q => q.1) hm).symm
      rw [e9] at K
      have e9 : y_mbm = mbm := (congrArg (fun q => q.2.1) hm).symm
      rw [e9] at K
      have e9 : y_mgm = mgm := (congrArg (fun q => q.2.2.1) hm).symm
      rw [e9] at K
      have e9 : y_mgr = mgr := (congrArg (fun q => q.2.2.2) hm).symm
      rw [e9] at K
      exact K 23 ls _ _ dX8_greatest_23 hP hD hS
  · rw [if_pos c2] at hm
    refine lv_iconst (v := (-1 : Int32)) hx hb dX8_greatest_7 (by decide) ?_
    have hm := Option.some.inj hm
    have e9 : r = (-1 : Int32) := (congrArg (fun q => q.1) hm).symm
    rw [e9] at K
    have e9 : y_mbm = mbm := (congrArg (fun q => q.2.1) hm).symm
    rw [e9] at K
    have e9 : y_mgm = mgm := (congrArg (fun q => q.2.2.1) hm).symm
    rw [e9] at K
    have e9 : y_mgr = mgr := (congrArg (fun q => q.2.2.2) hm).symm
    rw [e9] at K
    exact K 8 ls _ _ dX8_greatest_8 hP hD hS
set_option maxHeartbeats 4000000 in
set_option maxRecDepth 100000 in
theorem tX8_greatest (l : Launch) {D : va_G} (sz : Nat) {n : Nat} {a1 : Int32} {a2 : Int32} {r : Int32} {y_mbm : (Int32)} {y_mgm : (Int32)} {y_mgr : (Nat → Int64)} (hm : mX8_greatest n mbm mgm mgr mw mt mpi a1 a2 = some (r, y_mbm, y_mgm, y_mgr)) : Met l yX8_greatest (.code yX8_greatest cX8_greatest 6 (some .int) :: tw) ({ frames := 5, cells := 0, slots := 0, locals := 134 } : Room) (wrP D [.ref oM, .int a1, .int a2] (wdM cJ cI oM oM1 oM2 oM3 oM4 oM5 oM6 oM7 oM8 oM9 oM10 oM11 mw mt mrim mjn mhm mpn mbm mgm mpi mst mam mac mro mbe mhi mmi mgr mtr mle) [(cI, .int), (cJ, .long)] sz) (va_Qi (fun q (_ : Unit) => q = r) (fun (_ : Unit) (t : State) => va_P D vwCl (wdM cJ cI oM oM1 oM2 oM3 oM4 oM5 oM6 oM7 oM8 oM9 oM10 oM11 mw mt mrim mjn mhm mpn y_mbm y_mgm mpi mst mam mac mro mbe mhi mmi y_mgr mtr mle) t.heap ∧ va_K D vwCl [(cI, .int), (cJ, .long)] t ∧ va_D (va_A (wdM cJ cI oM oM1 oM2 oM3 oM4 oM5 oM6 oM7 oM8 oM9 oM10 oM11 mw mt mrim mjn mhm mpn mbm mgm mpi mst mam mac mro mbe mhi mmi mgr mtr mle) sz) (wdM cJ cI oM oM1 oM2 oM3 oM4 oM5 oM6 oM7 oM8 oM9 oM10 oM11 mw mt mrim mjn mhm mpn y_mbm y_mgm mpi mst mam mac mro mbe mhi mmi y_mgr mtr mle)) (va_A (wdM cJ cI oM oM1 oM2 oM3 oM4 oM5 oM6 oM7 oM8 oM9 oM10 oM11 mw mt mrim mjn mhm mpn mbm mgm mpi mst mam mac mro mbe mhi mmi mgr mtr mle) sz)) 0 0 (va_A (wdM cJ cI oM oM1 oM2 oM3 oM4 oM5 oM6 oM7 oM8 oM9 oM10 oM11 mw mt mrim mjn mhm mpn mbm mgm mpi mst mam mac mro mbe mhi mmi mgr mtr mle) sz) := by
  refine Met.ofW (cc := cX8_greatest) (maxL := 6) (ret := (some .int)) (by decide) rfl ?_
  intro p e s m args below meth c s₁ B hml hv
  obtain ⟨rfl, hsz, hP, hK, hD0⟩ := hv
  have hx := B.exec
  have hb := B.bytes
  have hr := B.returns
  have hts : ∀ w ∈ tw, w.before _ s = true := fun w h => atoms_spec (ws := .code yX8_greatest cX8_greatest 6 (some .int) :: tw) B.pre w (List.mem_cons_of_mem _ h)
  have hown : s.vm.findClass RX8 = some m.cls := findClass_of_methodNamed B.named
  have hlocks := B.notSynchronized
  subst hsz
  have hD := hD0.self (sz := s.heap.size)
  have hl := lv_entry ([.ref oM, .int a1, .int a2]) (n := 6) (Nat.le_of_ble_eq_true rfl)
  rw [lg_entry_eq]
  generalize (lg_sl ([.ref oM, .int a1, .int a2]) ++ List.replicate (6 - (lg_sl ([.ref oM, .int a1, .int a2])).length) Slot.unset).toArray = ls at hl ⊢
  refine bX8_greatest hx hb hml hown hts hK (fun q h => Or.inr h) ⟨Nat.le_of_ble_eq_true rfl, Nat.le_of_ble_eq_true rfl, Nat.zero_le _, Nat.zero_le _⟩ hm ls hl hP hD va_S.rf (fun pc ls H locs hd hP hD hS => ?_)
  exact W.iret hx hb hr (fun t ht hW => ⟨⟨r, (), rfl, rfl, by rw [ht]; exact hP, va_K.moved hW.alike hK, hD⟩, hS.F ht⟩) hS.2.2 hd
set_option maxHeartbeats 4000000 in
set_option maxRecDepth 100000 in
theorem kX8_greatest {own : String} {cc : ByteArray} {nL idx pc : Nat} {ls : Array Slot} {rest : List Value} {ws wr : va_W} {n : Nat} {a1 : Int32} {a2 : Int32} {r : Int32} {y_mbm : (Int32)} {y_mgm : (Int32)} {y_mgr : (Nat → Int64)} (fx : CallFix p m c cc nL s args tw own) (hq : Cond.methodLink own idx yX8_greatest ∈ tw) (isC isR : List Nat) (hC : isC.map (fun i => ws[i]?) = ((wdM cJ cI oM oM1 oM2 oM3 oM4 oM5 oM6 oM7 oM8 oM9 oM10 oM11 mw mt mrim mjn mhm mpn mbm mgm mpi mst mam mac mro mbe mhi mmi mgr mtr mle) : va_W).map some) (hRr : isR.map (fun i => ws[i]?) = wr.map some) (hnC : va_nd isC = true) (hn : va_nd isR = true) (hdis : ∀ i ∈ isR, i ∉ isC) (hK : va_K D vwCl [(cI, .int), (cJ, .long)] s) (hm : mX8_greatest n mbm mgm mgr mw mt mpi a1 a2 = some (r, y_mbm, y_mgm, y_mgr)) (hsz : ls.size = nL) (hR : 6 ≤ R.frames ∧ 159 ≤ R.locals ∧ cells ≤ R.cells ∧ slots ≤ R.slots) (hst : (rest.map fun v => v.category).sum ≤ 8) (hd : decode cc pc = .ok (.invokevirtual idx, 3)) (hP : va_P D vwCl ws H) (hD : va_D A ws) (hS : va_S A s.heap H locs) (hA : ∀ q, s.heap.size ≤ q → A q) (kk : ∀ (H : Heap) (locs : List Loc), va_P D vwCl (wr ++ (wdM cJ cI oM oM1 oM2 oM3 oM4 oM5 oM6 oM7 oM8 oM9 oM10 oM11 mw mt mrim mjn mhm mpn y_mbm y_mgm mpi mst mam mac mro mbe mhi mmi y_mgr mtr mle)) H → va_D A (wr ++ (wdM cJ cI oM oM1 oM2 oM3 oM4 oM5 oM6 oM7 oM8 oM9 oM10 oM11 mw mt mrim mjn mhm mpn y_mbm y_mgm mpi mst mam mac mro mbe mhi mmi y_mgr mtr mle)) → va_S A s.heap H locs → W p l e R s m args below meth c H locs cells slots Q (F0 m (pc + 3) ls (.int r :: rest))) : W p l e R s m args below meth c H locs cells slots Q (F0 m pc ls (.int a2 :: .int a1 :: .ref oM :: rest)) := by
  have hPc := va_P.subM hP isC hC
  have hDc := hD.sub isC hnC hC
  have hFc := va_free (wc := (wdM cJ cI oM oM1 oM2 oM3 oM4 oM5 oM6 oM7 oM8 oM9 oM10 oM11 mw mt mrim mjn mhm mpn mbm mgm mpi mst mam mac mro mbe mhi mmi mgr mtr mle)) hD hS hA isC hC
  refine va_calli (va_runV (As := [.int a1, .int a2]) (rest := rest) fx (tX8_greatest l H.size hm) (cwV 2 fx.2.2.2.2 (tw_V hq qw_539 qw_540 qw_53 qw_541) rfl rfl rfl (by decide +kernel) ⟨hR.1, hR.2.1⟩) ⟨wrP_bl, va_recv hK hPc (ci := 8) (q0 := 0) rfl rfl, wrP_ok hPc hK hDc⟩ rfl rfl hsz rfl (lv_room hst) hd ⟨hR.2.2.1, hR.2.2.2⟩) hS (fun q _ h => hFc q h) hFc (fun r9 u t H1 locs ht hvm hw hB hz1 hk1 hS => ?_)
  obtain ⟨hP1, hK1, hD1⟩ := hB
  rw [ht] at hP1
  rw [hw]
  obtain ⟨hP2, hD2⟩ := va_join (wr := wr) (w1 := (wdM cJ cI oM oM1 oM2 oM3 oM4 oM5 oM6 oM7 oM8 oM9 oM10 oM11 mw mt mrim mjn mhm mpn y_mbm y_mgm mpi mst mam mac mro mbe mhi mmi y_mgr mtr mle)) hP hD isC isR hC hRr hn hdis hk1 hFc hP1 hD1
  exact kk H1 locs hP2 hD2 hS
-- X8_isCoveredBy
def mX8_isCoveredBy_L58 (n : Nat) (mgm : Int32) (mgr : Nat → Int64) (v3 : Int32) : Nat → (Int32) → Option ((Int32))
  | 0, _ => none
  | k + 1, v4 => (if mgm ≤ v4 then some (v4) else gd (ib v4 800) ((if (mX8_has (mgr v4.toNatClampNeg) v3) = 0 then mX8_isCoveredBy_L58 n mgm mgr v3 k (v4 + (1 : Int32)) else some (v4))))
def mX8_isCoveredBy_L9 (n : Nat) (v1 : Int32) (mgm : Int32) (mgr : Nat → Int64) : Nat → (Int32) → (Nat → Int32) → (Nat → Int64) → Option (((Nat → Int32) × (Nat → Int64)) ⊕ ((Nat → Int32) × (Nat → Int64)))
  | 0, _, _, _ => none
  | k + 1, v2, mtr, mle => (if v2 < 0 then some (.inr ((mtr, mle))) else gd (ib v2 22) ((if (mle v2.toNatClampNeg) = (0 : Int64) then some (.inl ((mtr, mle))) else gd (ib v2 22) (jb (mX8_firstOf n (mle v2.toNatClampNeg)) (fun (r7 : Int32) => jb (if v2 = v1 then (some (mgm)) else gd (ib v2 21) ((some (((mtr v2.toNatClampNeg) + (1 : Int32)))))) (fun (j9 : Int32) => jb (mX8_isCoveredBy_L58 n mgm mgr r7 n j9) (fun (y19 : Int32) => jb3 (if y19 < mgm then gd (ib v2 21) (gd (ib v2 22) (gd (ib y19 800) (gd (ib (v2 + (1 : Int32)) 22) ((if (20 : Int32) < (v2 + (1 : Int32)) then (some ((v2 + (1 : Int32)), (upd mtr v2.toNatClampNeg y19), (vp_updL mle (v2 + (1 : Int32)).toNatClampNeg ((mle v2.toNatClampNeg) &&& ((mgr y19.toNatClampNeg) ^^^ (-1 : Int64)))))) else gd (ib (v2 + (1 : Int32)) 21) ((some ((v2 + (1 : Int32)), (upd (upd mtr v2.toNatClampNeg y19) (v2 + (1 : Int32)).toNatClampNeg (-1 : Int32)), (vp_updL mle (v2 + (1 : Int32)).toNatClampNeg ((mle v2.toNatClampNeg) &&& ((mgr y19.toNatClampNeg) ^^^ (-1 : Int64)))))))))))) else (some ((v2 + (-1 : Int32)), mtr, mle))) (fun (j21 : Int32) (j22 : Nat → Int32) (j23 : Nat → Int64) => mX8_isCoveredBy_L9 n v1 mgm mgr k j21 j22 j23))))))))
def mX8_isCoveredBy (n : Nat) (mgm : Int32) (mgr : Nat → Int64) (mtr : Nat → Int32) (mle : Nat → Int64) (a1 : Int32) : Option (Int32 × (Nat → Int32) × (Nat → Int64)) :=
  gd (ib (0 : Int32) 21) (jb (mX8_isCoveredBy_L9 n a1 mgm mgr n (0 : Int32) (upd mtr (0 : Int32).toNatClampNeg (-1 : Int32)) mle) (fun q => el2 q (fun q => pr2 q (fun (y33 : Nat → Int32) (y34 : Nat → Int64) => (some ((1 : Int32), y33, y34)))) (fun q => pr2 q (fun (y35 : Nat → Int32) (y36 : Nat → Int64) => (some ((0 : Int32), y35, y36))))))
theorem dX8_isCoveredBy_0 : decode cX8_isCoveredBy 0 = .ok (.iconst 0, 1) := by decide +kernel
theorem dX8_isCoveredBy_1 : decode cX8_isCoveredBy 1 = .ok (.istore_n 2, 1) := by decide +kernel
theorem dX8_isCoveredBy_2 : decode cX8_isCoveredBy 2 = .ok (.aload_n 0, 1) := by decide +kernel
theorem dX8_isCoveredBy_3 : decode cX8_isCoveredBy 3 = .ok (.getfield 51, 3) := by decide +kernel
theorem dX8_isCoveredBy_6 : decode cX8_isCoveredBy 6 = .ok (.iconst 0, 1) := by decide +kernel
theorem dX8_isCoveredBy_7 : decode cX8_isCoveredBy 7 = .ok (.iconst (-1), 1) := by decide +kernel
theorem dX8_isCoveredBy_8 : decode cX8_isCoveredBy 8 = .ok (.iastore, 1) := by decide +kernel
theorem dX8_isCoveredBy_9 : decode cX8_isCoveredBy 9 = .ok (.iload_n 2, 1) := by decide +kernel
theorem dX8_isCoveredBy_10 : decode cX8_isCoveredBy 10 = .ok (.ifCond .lt 145, 3) := by decide +kernel
theorem dX8_isCoveredBy_13 : decode cX8_isCoveredBy 13 = .ok (.aload_n 0, 1) := by decide +kernel
theorem dX8_isCoveredBy_14 : decode cX8_isCoveredBy 14 = .ok (.getfield 54, 3) := by decide +kernel
theorem dX8_isCoveredBy_17 : decode cX8_isCoveredBy 17 = .ok (.iload_n 2, 1) := by decide +kernel
theorem dX8_isCoveredBy_18 : decode cX8_isCoveredBy 18 = .ok (.laload, 1) := by decide +kernel
theorem dX8_isCoveredBy_19 : decode cX8_isCoveredBy 19 = .ok (.lconst 0, 1) := by decide +kernel
theorem dX8_isCoveredBy_20 : decode cX8_isCoveredBy 20 = .ok (.lcmp, 1) := by decide +kernel
theorem dX8_isCoveredBy_21 : decode cX8_isCoveredBy 21 = .ok (.ifCond .ne 5, 3) := by decide +kernel
theorem dX8_isCoveredBy_24 : decode cX8_isCoveredBy 24 = .ok (.iconst 1, 1) := by decide +kernel
theorem dX8_isCoveredBy_25 : decode cX8_isCoveredBy 25 = .ok (.ireturn, 1) := by decide +kernel
theorem dX8_isCoveredBy_26 : decode cX8_isCoveredBy 26 = .ok (.aload_n 0, 1) := by decide +kernel
theorem dX8_isCoveredBy_27 : decode cX8_isCoveredBy 27 = .ok (.getfield 54, 3) := by decide +kernel
theorem dX8_isCoveredBy_30 : decode cX8_isCoveredBy 30 = .ok (.iload_n 2, 1) := by decide +kernel
theorem dX8_isCoveredBy_31 : decode cX8_isCoveredBy 31 = .ok (.laload, 1) := by decide +kernel
theorem dX8_isCoveredBy_32 : decode cX8_isCoveredBy 32 = .ok (.invokestatic 139, 3) := by decide +kernel
theorem dX8_isCoveredBy_35 : decode cX8_isCoveredBy 35 = .ok (.istore_n 3, 1) := by decide +kernel
theorem dX8_isCoveredBy_36 : decode cX8_isCoveredBy 36 = .ok (.iload_n 2, 1) := by decide +kernel
theorem dX8_isCoveredBy_37 : decode cX8_isCoveredBy 37 = .ok (.iload_n 1, 1) := by decide +kernel
theorem dX8_isCoveredBy_38 : decode cX8_isCoveredBy 38 = .ok (.if_icmp .ne 10, 3) := by decide +kernel
theorem dX8_isCoveredBy_41 : decode cX8_isCoveredBy 41 = .ok (.aload_n 0, 1) := by decide +kernel
theorem dX8_isCoveredBy_42 : decode cX8_isCoveredBy 42 = .ok (.getfield 172, 3) := by decide +kernel
theorem dX8_isCoveredBy_45 : decode cX8_isCoveredBy 45 = .ok (.goto 11, 3) := by decide +kernel
theorem dX8_isCoveredBy_48 : decode cX8_isCoveredBy 48 = .ok (.aload_n 0, 1) := by decide +kernel
theorem dX8_isCoveredBy_49 : decode cX8_isCoveredBy 49 = .ok (.getfield 51, 3) := by decide +kernel
theorem dX8_isCoveredBy_52 : decode cX8_isCoveredBy 52 = .ok (.iload_n 2, 1) := by decide +kernel
theorem dX8_isCoveredBy_53 : decode cX8_isCoveredBy 53 = .ok (.iaload, 1) := by decide +kernel
theorem dX8_isCoveredBy_54 : decode cX8_isCoveredBy 54 = .ok (.iconst 1, 1) := by decide +kernel
theorem dX8_isCoveredBy_55 : decode cX8_isCoveredBy 55 = .ok (.iadd, 1) := by decide +kernel
theorem dX8_isCoveredBy_56 : decode cX8_isCoveredBy 56 = .ok (.istore 4, 2) := by decide +kernel
theorem dX8_isCoveredBy_58 : decode cX8_isCoveredBy 58 = .ok (.iload 4, 2) := by decide +kernel
theorem dX8_isCoveredBy_60 : decode cX8_isCoveredBy 60 = .ok (.aload_n 0, 1) := by decide +kernel
theorem dX8_isCoveredBy_61 : decode cX8_isCoveredBy 61 = .ok (.getfield 172, 3) := by decide +kernel
theorem dX8_isCoveredBy_64 : decode cX8_isCoveredBy 64 = .ok (.if_icmp .ge 23, 3) := by decide +kernel
theorem dX8_isCoveredBy_67 : decode cX8_isCoveredBy 67 = .ok (.aload_n 0, 1) := by decide +kernel
theorem dX8_isCoveredBy_68 : decode cX8_isCoveredBy 68 = .ok (.getfield 48, 3) := by decide +kernel
theorem dX8_isCoveredBy_71 : decode cX8_isCoveredBy 71 = .ok (.iload 4, 2) := by decide +kernel
theorem dX8_isCoveredBy_73 : decode cX8_isCoveredBy 73 = .ok (.laload, 1) := by decide +kernel
theorem dX8_isCoveredBy_74 : decode cX8_isCoveredBy 74 = .ok (.iload_n 3, 1) := by decide +kernel
theorem dX8_isCoveredBy_75 : decode cX8_isCoveredBy 75 = .ok (.invokestatic 78, 3) := by decide +kernel
theorem dX8_isCoveredBy_78 : decode cX8_isCoveredBy 78 = .ok (.ifCond .ne 9, 3) := by decide +kernel
theorem dX8_isCoveredBy_81 : decode cX8_isCoveredBy 81 = .ok (.iinc 4 1, 3) := by decide +kernel
theorem dX8_isCoveredBy_84 : decode cX8_isCoveredBy 84 = .ok (.goto (-26), 3) := by decide +kernel
theorem dX8_isCoveredBy_87 : decode cX8_isCoveredBy 87 = .ok (.iload 4, 2) := by decide +kernel
theorem dX8_isCoveredBy_89 : decode cX8_isCoveredBy 89 = .ok (.aload_n 0, 1) := by decide +kernel
theorem dX8_isCoveredBy_90 : decode cX8_isCoveredBy 90 = .ok (.getfield 172, 3) := by decide +kernel
theorem dX8_isCoveredBy_93 : decode cX8_isCoveredBy 93 = .ok (.if_icmp .lt 9, 3) := by decide +kernel
theorem dX8_isCoveredBy_96 : decode cX8_isCoveredBy 96 = .ok (.iinc 2 (-1), 3) := by decide +kernel
theorem dX8_isCoveredBy_99 : decode cX8_isCoveredBy 99 = .ok (.goto 53, 3) := by decide +kernel
theorem dX8_isCoveredBy_102 : decode cX8_isCoveredBy 102 = .ok (.aload_n 0, 1) := by decide +kernel
theorem dX8_isCoveredBy_103 : decode cX8_isCoveredBy 103 = .ok (.getfield 51, 3) := by decide +kernel
theorem dX8_isCoveredBy_106 : decode cX8_isCoveredBy 106 = .ok (.iload_n 2, 1) := by decide +kernel
theorem dX8_isCoveredBy_107 : decode cX8_isCoveredBy 107 = .ok (.iload 4, 2) := by decide +kernel
theorem dX8_isCoveredBy_109 : decode cX8_isCoveredBy 109 = .ok (.iastore, 1) := by decide +kernel
theorem dX8_isCoveredBy_110 : decode cX8_isCoveredBy 110 = .ok (.aload_n 0, 1) := by decide +kernel
theorem dX8_isCoveredBy_111 : decode cX8_isCoveredBy 111 = .ok (.getfield 54, 3) := by decide +kernel
theorem dX8_isCoveredBy_114 : decode cX8_isCoveredBy 114 = .ok (.iload_n 2, 1) := by decide +kernel
theorem dX8_isCoveredBy_115 : decode cX8_isCoveredBy 115 = .ok (.iconst 1, 1) := by decide +kernel
theorem dX8_isCoveredBy_116 : decode cX8_isCoveredBy 116 = .ok (.iadd, 1) := by decide +kernel
theorem dX8_isCoveredBy_117 : decode cX8_isCoveredBy 117 = .ok (.aload_n 0, 1) := by decide +kernel
theorem dX8_isCoveredBy_118 : decode cX8_isCoveredBy 118 = .ok (.getfield 54, 3) := by decide +kernel
theorem dX8_isCoveredBy_121 : decode cX8_isCoveredBy 121 = .ok (.iload_n 2, 1) := by decide +kernel
theorem dX8_isCoveredBy_122 : decode cX8_isCoveredBy 122 = .ok (.laload, 1) := by decide +kernel
theorem dX8_isCoveredBy_123 : decode cX8_isCoveredBy 123 = .ok (.aload_n 0, 1) := by decide +kernel
theorem dX8_isCoveredBy_124 : decode cX8_isCoveredBy 124 = .ok (.getfield 48, 3) := by decide +kernel
theorem dX8_isCoveredBy_127 : decode cX8_isCoveredBy 127 = .ok (.iload 4, 2) := by decide +kernel
theorem dX8_isCoveredBy_129 : decode cX8_isCoveredBy 129 = .ok (.laload, 1) := by decide +kernel
theorem dX8_isCoveredBy_130 : decode cX8_isCoveredBy 130 = .ok (.ldc2_w 82, 3) := by decide +kernel
theorem dX8_isCoveredBy_133 : decode cX8_isCoveredBy 133 = .ok (.lxor, 1) := by decide +kernel
theorem dX8_isCoveredBy_134 : decode cX8_isCoveredBy 134 = .ok (.land, 1) := by decide +kernel
theorem dX8_isCoveredBy_135 : decode cX8_isCoveredBy 135 = .ok (.lastore, 1) := by decide +kernel
theorem dX8_isCoveredBy_136 : decode cX8_isCoveredBy 136 = .ok (.iinc 2 1, 3) := by decide +kernel
theorem dX8_isCoveredBy_139 : decode cX8_isCoveredBy 139 = .ok (.iload_n 2, 1) := by decide +kernel
theorem dX8_isCoveredBy_140 : decode cX8_isCoveredBy 140 = .ok (.bipush 20, 2) := by decide +kernel
theorem dX8_isCoveredBy_142 : decode cX8_isCoveredBy 142 = .ok (.if_icmp .gt 10, 3) := by decide +kernel
theorem dX8_isCoveredBy_145 : decode cX8_isCoveredBy 145 = .ok (.aload_n 0, 1) := by decide +kernel
theorem dX8_isCoveredBy_146 : decode cX8_isCoveredBy 146 = .ok (.getfield 51, 3) := by decide +kernel
theorem dX8_isCoveredBy_149 : decode cX8_isCoveredBy 149 = .ok (.iload_n 2, 1) := by decide +kernel
theorem dX8_isCoveredBy_150 : decode cX8_isCoveredBy 150 = .ok (.iconst (-1), 1) := by decide +kernel
theorem dX8_isCoveredBy_151 : decode cX8_isCoveredBy 151 = .ok (.iastore, 1) := by decide +kernel
theorem dX8_isCoveredBy_152 : decode cX8_isCoveredBy 152 = .ok (.goto (-143), 3) := by decide +kernel
theorem dX8_isCoveredBy_155 : decode cX8_isCoveredBy 155 = .ok (.iconst 0, 1) := by decide +kernel
theorem dX8_isCoveredBy_156 : decode cX8_isCoveredBy 156 = .ok (.ireturn, 1) := by decide +kernel
set_option maxHeartbeats 4000000 in
set_option maxRecDepth 100000 in
theorem wX8_isCoveredBy_L58 {n : Nat} {v1 : Int32} {v2 : Int32} {v3 : Int32} (hx : p.tables.exec = Jvm.exec) (hb : c.code = cX8_isCoveredBy) (hml : c.maxLocals = 5) (hown : s.vm.findClass RX8 = some m.cls) (hts : ∀ w ∈ tw, w.before args s = true) (hK : va_K D vwCl [(cI, .int), (cJ, .long)] s) (hP : va_P D vwCl (wdM cJ cI oM oM1 oM2 oM3 oM4 oM5 oM6 oM7 oM8 oM9 oM10 oM11 mw mt mrim mjn mhm mpn mbm mgm mpi mst mam mac mro mbe mhi mmi mgr mtr mle) H) (hA : ∀ q, s.heap.size ≤ q → A q) (hS : va_S A s.heap H locs) (hR : 2 ≤ R.frames ∧ 44 ≤ R.locals ∧ cells ≤ R.cells ∧ slots ≤ R.slots) : ∀ (k : Nat) (v4 : Int32) (x4 : Int32), mX8_isCoveredBy_L58 n mgm mgr v3 k v4 = some (x4) → ∀ ls : Array Slot, lv_has ls 5 [(0, .ref oM), (1, .int v1), (2, .int v2), (3, .int v3), (4, .int v4)] → (∀ ls : Array Slot, lv_has ls 5 [(4, .int x4), (0, .ref oM), (1, .int v1), (2, .int v2)] → W p l e R s m args below meth c H locs cells slots Q (F0 m 87 ls [])) → W p l e R s m args below meth c H locs cells slots Q (F0 m 58 ls []) := by
  intro k
  induction k with
  | zero => intro v4 x4 hm; rw [mX8_isCoveredBy_L58] at hm; cases hm
  | succ k ih =>
    intro v4 x4 hm ls hl K0
    rw [mX8_isCoveredBy_L58] at hm
    refine lv_iload hx hb dX8_isCoveredBy_58 (lv_at hl 4 rfl) ?_
    refine lv_aload_n hx hb dX8_isCoveredBy_60 rfl (lv_at hl 0 rfl) ?_
    refine va_get (D := D) (ci := 8) (v := .int mgm) (C := RX8) (T := TX8) (N := 19) hx hb hts tnX8 hown hK hP 0 rfl rfl 15 (by decide) (hts _ qw_528) (fun _ h9 => h9) rfl dX8_isCoveredBy_61 ?_
    refine lv_icmp_ge (tgt := 87) hx hb dX8_isCoveredBy_64 (by decide) (fun c15 => ?_) (fun c15 => ?_)
    · rw [if_pos c15] at hm
      have hm := Option.some.inj hm
      have e9 : x4 = v4 := (congrArg (fun q => q) hm).symm
      rw [e9] at K0
      exact K0 ls (lv_sub hl [4, 0, 1, 2] rfl)
    · rw [if_neg c15] at hm
      refine lv_aload_n hx hb dX8_isCoveredBy_67 rfl (lv_at hl 0 rfl) ?_
      refine va_get (D := D) (ci := 8) (v := .ref oM9) (C := RX8) (T := TX8) (N := 19) hx hb hts tnX8 hown hK hP 0 rfl rfl 16 (by decide) (hts _ qw_530) (fun _ h9 => h9) rfl dX8_isCoveredBy_68 ?_
      refine lv_iload hx hb dX8_isCoveredBy_71 (lv_at hl 4 rfl) ?_
      obtain ⟨g16, hm⟩ := gd_out hm
      refine va_lald hx hb hK hP 9 1 rfl rfl g16 dX8_isCoveredBy_73 ?_
      refine lv_iload_n hx hb dX8_isCoveredBy_74 rfl (lv_at hl 3 rfl) ?_
      refine kX8_has ⟨hx, hb, hml, hown, hts⟩ qw_81 hl.1 ⟨Nat.le_trans (by decide) hR.1, Nat.le_trans (by decide) hR.2.1, hR.2.2⟩ (Nat.le_of_ble_eq_true rfl) dX8_isCoveredBy_75 ?_
      refine lv_if_ne (tgt := 87) hx hb dX8_isCoveredBy_78 (by decide) (fun c18 => ?_) (fun c18 => ?_)
      · rw [if_neg c18] at hm
        have hm := Option.some.inj hm
        have e9 : x4 = v4 := (congrArg (fun q => q) hm).symm
        rw [e9] at K0
        exact K0 ls (lv_sub hl [4, 0, 1, 2] rfl)
      · rw [if_pos c18] at hm
        refine lv_iinc (v := (v4 + (1 : Int32))) (lv' := [(4, .int (v4 + (1 : Int32))), (0, .ref oM), (1, .int v1), (2, .int v2), (3, .int v3)]) hx hb dX8_isCoveredBy_81 hl (k := 4) rfl (by rfl) (by decide) rfl (fun ls hl => ?_)
        refine lv_goto (tgt := 58) hx hb dX8_isCoveredBy_84 (by decide) ?_
        exact ih _ _ hm ls (lv_sub hl [1, 2, 3, 4, 0] rfl) K0
set_option maxHeartbeats 4000000 in
set_option maxRecDepth 100000 in
theorem wX8_isCoveredBy_L9 {n : Nat} {v1 : Int32} (hx : p.tables.exec = Jvm.exec) (hb : c.code = cX8_isCoveredBy) (hml : c.maxLocals = 5) (hown : s.vm.findClass RX8 = some m.cls) (hts : ∀ w ∈ tw, w.before args s = true) (hK : va_K D vwCl [(cI, .int), (cJ, .long)] s) (hA : ∀ q, s.heap.size ≤ q → A q) (hR : 2 ≤ R.frames ∧ 44 ≤ R.locals ∧ cells ≤ R.cells ∧ slots ≤ R.slots) : ∀ (k : Nat) (v2 : Int32) (mtr : Nat → Int32) (mle : Nat → Int64) (x : ((Nat → Int32) × (Nat → Int64)) ⊕ ((Nat → Int32) × (Nat → Int64))), mX8_isCoveredBy_L9 n v1 mgm mgr k v2 mtr mle = some x → ∀ ls : Array Slot, lv_has ls 5 [(0, .ref oM), (1, .int v1), (2, .int v2)] → ∀ (H : Heap) (locs : List Loc), va_P D vwCl (wdM cJ cI oM oM1 oM2 oM3 oM4 oM5 oM6 oM7 oM8 oM9 oM10 oM11 mw mt mrim mjn mhm mpn mbm mgm mpi mst mam mac mro mbe mhi mmi mgr mtr mle) H → va_D A (wdM cJ cI oM oM1 oM2 oM3 oM4 oM5 oM6 oM7 oM8 oM9 oM10 oM11 mw mt mrim mjn mhm mpn mbm mgm mpi mst mam mac mro mbe mhi mmi mgr mtr mle) → va_S A s.heap H locs → (∀ (x_mtr : Nat → Int32) (x_mle : Nat → Int64), x = .inl ((x_mtr, x_mle)) → ∀ ls : Array Slot, lv_has ls 5 [] → ∀ (H : Heap) (locs : List Loc), va_P D vwCl (wdM cJ cI oM oM1 oM2 oM3 oM4 oM5 oM6 oM7 oM8 oM9 oM10 oM11 mw mt mrim mjn mhm mpn mbm mgm mpi mst mam mac mro mbe mhi mmi mgr x_mtr x_mle) H → va_D A (wdM cJ cI oM oM1 oM2 oM3 oM4 oM5 oM6 oM7 oM8 oM9 oM10 oM11 mw mt mrim mjn mhm mpn mbm mgm mpi mst mam mac mro mbe mhi mmi mgr x_mtr x_mle) → va_S A s.heap H locs → W p l e R s m args below meth c H locs cells slots Q (F0 m 24 ls [])) → (∀ (x_mtr : Nat → Int32) (x_mle : Nat → Int64), x = .inr ((x_mtr, x_mle)) → ∀ ls : Array Slot, lv_has ls 5 [] → ∀ (H : Heap) (locs : List Loc), va_P D vwCl (wdM cJ cI oM oM1 oM2 oM3 oM4 oM5 oM6 oM7 oM8 oM9 oM10 oM11 mw mt mrim mjn mhm mpn mbm mgm mpi mst mam mac mro mbe mhi mmi mgr x_mtr x_mle) H → va_D A (wdM cJ cI oM oM1 oM2 oM3 oM4 oM5 oM6 oM7 oM8 oM9 oM10 oM11 mw mt mrim mjn mhm mpn mbm mgm mpi mst mam mac mro mbe mhi mmi mgr x_mtr x_mle) → va_S A s.heap H locs → W p l e R s m args below meth c H locs cells slots Q (F0 m 155 ls [])) → W p l e R s m args below meth c H locs cells slots Q (F0 m 9 ls []) := by
  intro k
  induction k with
  | zero => intro v2 mtr mle x hm; rw [mX8_isCoveredBy_L9] at hm; cases hm
  | succ k ih =>
    intro v2 mtr mle x hm ls hl H locs hP hD hS K0 K1
    rw [mX8_isCoveredBy_L9] at hm
    refine lv_iload_n hx hb dX8_isCoveredBy_9 rfl (lv_at hl 2 rfl) ?_
    refine lv_if_lt (tgt := 155) hx hb dX8_isCoveredBy_10 (by decide) (fun c3 => ?_) (fun c3 => ?_)
    · rw [if_pos c3] at hm
      exact K1 _ _ (Option.some.inj hm).symm ls (lv_sub hl [] rfl) _ _ hP hD hS
    · rw [if_neg c3] at hm
      refine lv_aload_n hx hb dX8_isCoveredBy_13 rfl (lv_at hl 0 rfl) ?_
      refine va_get (D := D) (ci := 8) (v := .ref oM11) (C := RX8) (T := TX8) (N := 19) hx hb hts tnX8 hown hK hP 0 rfl rfl 18 (by decide) (hts _ qw_543) (fun _ h9 => h9) rfl dX8_isCoveredBy_14 ?_
      refine lv_iload_n hx hb dX8_isCoveredBy_17 rfl (lv_at hl 2 rfl) ?_
      obtain ⟨g4, hm⟩ := gd_out hm
      refine va_lald hx hb hK hP 11 1 rfl rfl g4 dX8_isCoveredBy_18 ?_
      refine lv_lconst (v := (0 : Int64)) hx hb dX8_isCoveredBy_19 (by decide) ?_
      refine W.lcmp hx hb dX8_isCoveredBy_20 ?_
      refine lv_if_ne (tgt := 26) hx hb dX8_isCoveredBy_21 (by decide) (fun c5 => ?_) (fun c5 => ?_)
      · have c5 := fun h9 => c5 ((lg_cmp_eq (mle v2.toNatClampNeg) (0 : Int64)).mpr h9)
        rw [if_neg c5] at hm
        refine lv_aload_n hx hb dX8_isCoveredBy_26 rfl (lv_at hl 0 rfl) ?_
        refine va_get (D := D) (ci := 8) (v := .ref oM11) (C := RX8) (T := TX8) (N := 19) hx hb hts tnX8 hown hK hP 0 rfl rfl 18 (by decide) (hts _ qw_543) (fun _ h9 => h9) rfl dX8_isCoveredBy_27 ?_
        refine lv_iload_n hx hb dX8_isCoveredBy_30 rfl (lv_at hl 2 rfl) ?_
        obtain ⟨g6, hm⟩ := gd_out hm
        refine va_lald hx hb hK hP 11 1 rfl rfl g6 dX8_isCoveredBy_31 ?_
        obtain ⟨r7, h8, hm⟩ := jb_out hm
        refine kX8_firstOf ⟨hx, hb, hml, hown, hts⟩ qw_139 h8 hl.1 ⟨Nat.le_trans (by decide) hR.1, Nat.le_trans (by decide) hR.2.1, hR.2.2⟩ (Nat.le_of_ble_eq_true rfl) dX8_isCoveredBy_32 ?_
        refine lv_istore_n (lv' := [(3, .int r7), (0, .ref oM), (1, .int v1), (2, .int v2)]) hx hb dX8_isCoveredBy_35 rfl hl (by decide) rfl (fun ls hl => ?_)
        refine lv_iload_n hx hb dX8_isCoveredBy_36 rfl (lv_at hl 3 rfl) ?_
        refine lv_iload_n hx hb dX8_isCoveredBy_37 rfl (lv_at hl 2 rfl) ?_
        obtain ⟨j9, hi10, hm⟩ := jb_out hm
        have key11 : ∀ (ls : Array Slot), lv_has ls 5 [(3, .int r7), (0, .ref oM), (1, .int v1), (2, .int v2)] → W p l e R s m args below meth c H locs cells slots Q (F0 m 56 ls [.int j9]) := by
          intro ls hl
          refine lv_istore (lv' := [(4, .int j9), (3, .int r7), (0, .ref oM), (1, .int v1), (2, .int v2)]) hx hb dX8_isCoveredBy_56 hl (by decide) rfl (fun ls hl => ?_)
          obtain ⟨y19, h20, hm⟩ := jb_out hm
          refine wX8_isCoveredBy_L58 hx hb hml hown hts hK hP hA hS hR n _ _  h20 ls (lv_sub hl [2, 3, 4, 1, 0] rfl) (fun ls hl => ?_)
          refine lv_iload hx hb dX8_isCoveredBy_87 (lv_at hl 0 rfl) ?_
          refine lv_aload_n hx hb dX8_isCoveredBy_89 rfl (lv_at hl 1 rfl) ?_
          refine va_get (D := D) (ci := 8) (v := .int mgm) (C := RX8) (T := TX8) (N := 19) hx hb hts tnX8 hown hK hP 0 rfl rfl 15 (by decide) (hts _ qw_528) (fun _ h9 => h9) rfl dX8_isCoveredBy_90 ?_
          obtain ⟨j21, j22, j23, hi24, hm⟩ := jb_out3 hm
          have key25 : ∀ (ls : Array Slot), lv_has ls 5 [(2, .int j21), (0, .ref oM), (1, .int v1)] → ∀ (H : Heap) (locs : List Loc), va_P D vwCl (wdM cJ cI oM oM1 oM2 oM3 oM4 oM5 oM6 oM7 oM8 oM9 oM10 oM11 mw mt mrim mjn mhm mpn mbm mgm mpi mst mam mac mro mbe mhi mmi mgr j22 j23) H → va_D A (wdM cJ cI oM oM1 oM2 oM3 oM4 oM5 oM6 oM7 oM8 oM9 oM10 oM11 mw mt mrim mjn mhm mpn mbm mgm mpi mst mam mac mro mbe mhi mmi mgr j22 j23) → va_S A s.heap H locs → W p l e R s m args below meth c H locs cells slots Q (F0 m 152 ls []) := by
            intro ls hl H locs hP hD hS
            refine lv_goto (tgt := 9) hx hb dX8_isCoveredBy_152 (by decide) ?_
            exact ih _ _ _ _ hm ls (lv_sub hl [1, 2, 0] rfl) _ _ hP hD hS K0 K1
          refine lv_icmp_lt (tgt := 102) hx hb dX8_isCoveredBy_93 (by decide) (fun c26 => ?_) (fun c26 => ?_)
          · rw [if_pos c26] at hi24
            refine lv_aload_n hx hb dX8_isCoveredBy_102 rfl (lv_at hl 1 rfl) ?_
            refine va_get (D := D) (ci := 8) (v := .ref oM10) (C := RX8) (T := TX8) (N := 19) hx hb hts tnX8 hown hK hP 0 rfl rfl 17 (by decide) (hts _ qw_542) (fun _ h9 => h9) rfl dX8_isCoveredBy_103 ?_
            refine lv_iload_n hx hb dX8_isCoveredBy_106 rfl (lv_at hl 3 rfl) ?_
            refine lv_iload hx hb dX8_isCoveredBy_107 (lv_at hl 0 rfl) ?_
            obtain ⟨g27, hi24⟩ := gd_out hi24
            refine va_iast hx hb hK hP hD hS 10 0 rfl rfl g27 dX8_isCoveredBy_109 (fun H locs hP hD hS => ?_)
            have hP : va_P D vwCl (wdM cJ cI oM oM1 oM2 oM3 oM4 oM5 oM6 oM7 oM8 oM9 oM10 oM11 mw mt mrim mjn mhm mpn mbm mgm mpi mst mam mac mro mbe mhi mmi mgr (upd mtr v2.toNatClampNeg y19) mle) H := hP
            have hD : va_D A (wdM cJ cI oM oM1 oM2 oM3 oM4 oM5 oM6 oM7 oM8 oM9 oM10 oM11 mw mt mrim mjn mhm mpn mbm mgm mpi mst mam mac mro mbe mhi mmi mgr (upd mtr v2.toNatClampNeg y19) mle) := hD
            refine lv_aload_n hx hb dX8_isCoveredBy_110 rfl (lv_at hl 1 rfl) ?_
            refine va_get (D := D) (ci := 8) (v := .ref oM11) (C := RX8) (T := TX8) (N := 19) hx hb hts tnX8 hown hK hP 0 rfl rfl 18 (by decide) (hts _ qw_543) (fun _ h9 => h9) rfl dX8_isCoveredBy_111 ?_
            refine lv_iload_n hx hb dX8_isCoveredBy_114 rfl (lv_at hl 3 rfl) ?_
            refine lv_iconst (v := (1 : Int32)) hx hb dX8_isCoveredBy_115 (by decide) ?_
            refine lv_iadd hx hb dX8_isCoveredBy_116 ?_
            refine lv_aload_n hx hb dX8_isCoveredBy_117 rfl (lv_at hl 1 rfl) ?_
            refine va_get (D := D) (ci := 8) (v := .ref oM11) (C := RX8) (T := TX8) (N := 19) hx hb hts tnX8 hown hK hP 0 rfl rfl 18 (by decide) (hts _ qw_543) (fun _ h9 => h9) rfl dX8_isCoveredBy_118 ?_
            refine lv_iload_n hx hb dX8_isCoveredBy_121 rfl (lv_at hl 3 rfl) ?_
            obtain ⟨g28, hi24⟩ := gd_out hi24
            refine va_lald hx hb hK hP 11 1 rfl rfl g28 dX8_isCoveredBy_122 ?_
            refine lv_aload_n hx hb dX8_isCoveredBy_123 rfl (lv_at hl 1 rfl) ?_
            refine va_get (D := D) (ci := 8) (v := .ref oM9) (C := RX8) (T := TX8) (N := 19) hx hb hts tnX8 hown hK hP 0 rfl rfl 16 (by decide) (hts _ qw_530) (fun _ h9 => h9) rfl dX8_isCoveredBy_124 ?_
            refine lv_iload hx hb dX8_isCoveredBy_127 (lv_at hl 0 rfl) ?_
            obtain ⟨g29, hi24⟩ := gd_out hi24
            refine va_lald hx hb hK hP 9 1 rfl rfl g29 dX8_isCoveredBy_129 ?_
            refine lv_ldc2 (v := (-1 : Int64)) hx hb hown (hts _ qw_97) dX8_isCoveredBy_130 ?_
            refine lv_lxor hx hb dX8_isCoveredBy_133 ?_
            refine lv_land hx hb dX8_isCoveredBy_134 ?_
            obtain ⟨g30, hi24⟩ := gd_out hi24
            refine va_last hx hb hK hP hD hS 11 1 rfl rfl g30 dX8_isCoveredBy_135 (fun H locs hP hD hS => ?_)
            have hP : va_P D vwCl (wdM cJ cI oM oM1 oM2 oM3 oM4 oM5 oM6 oM7 oM8 oM9 oM10 oM11 mw mt mrim mjn mhm mpn mbm mgm mpi mst mam mac mro mbe mhi mmi mgr (upd mtr v2.toNatClampNeg y19) (vp_updL mle (v2 + (1 : Int32)).toNatClampNeg ((mle v2.toNatClampNeg) &&& ((mgr y19.toNatClampNeg) ^^^ (-1 : Int64))))) H := hP
            have hD : va_D A (wdM cJ cI oM oM1 oM2 oM3 oM4 oM5 oM6 oM7 oM8 oM9 oM10 oM11 mw mt mrim mjn mhm mpn mbm mgm mpi mst mam mac mro mbe mhi mmi mgr (upd mtr v2.toNatClampNeg y19) (vp_updL mle (v2 + (1 : Int32)).toNatClampNeg ((mle v2.toNatClampNeg) &&& ((mgr y19.toNatClampNeg) ^^^ (-1 : Int64))))) := hD
            refine lv_iinc (v := (v2 + (1 : Int32))) (lv' := [(2, .int (v2 + (1 : Int32))), (4, .int y19), (0, .ref oM), (1, .int v1)]) hx hb dX8_isCoveredBy_136 hl (k := 3) rfl (by rfl) (by decide) rfl (fun ls hl => ?_)
            refine lv_iload_n hx hb dX8_isCoveredBy_139 rfl (lv_at hl 0 rfl) ?_
            refine lv_bipush (v := (20 : Int32)) hx hb dX8_isCoveredBy_140 (by decide) ?_
            refine lv_icmp_gt (tgt := 152) hx hb dX8_isCoveredBy_142 (by decide) (fun c31 => ?_) (fun c31 => ?_)
            · rw [if_pos c31] at hi24
              have hi24 := Option.some.inj hi24
              have e9 : j21 = (v2 + (1 : Int32)) := (congrArg (fun q => q.1) hi24).symm
              rw [e9] at key25
              have e9 : j22 = (upd mtr v2.toNatClampNeg y19) := (congrArg (fun q => q.2.1) hi24).symm
              rw [e9] at key25
              have e9 : j23 = (vp_updL mle (v2 + (1 : Int32)).toNatClampNeg ((mle v2.toNatClampNeg) &&& ((mgr y19.toNatClampNeg) ^^^ (-1 : Int64)))) := (congrArg (fun q => q.2.2) hi24).symm
              rw [e9] at key25
              exact key25 ls (lv_sub hl [0, 2, 3] rfl) _ _ hP hD hS
            · rw [if_neg c31] at hi24
              refine lv_aload_n hx hb dX8_isCoveredBy_145 rfl (lv_at hl 2 rfl) ?_
              refine va_get (D := D) (ci := 8) (v := .ref oM10) (C := RX8) (T := TX8) (N := 19) hx hb hts tnX8 hown hK hP 0 rfl rfl 17 (by decide) (hts _ qw_542) (fun _ h9 => h9) rfl dX8_isCoveredBy_146 ?_
              refine lv_iload_n hx hb dX8_isCoveredBy_149 rfl (lv_at hl 0 rfl) ?_
              refine lv_iconst (v := (-1 : Int32)) hx hb dX8_isCoveredBy_150 (by decide) ?_
              obtain ⟨g32, hi24⟩ := gd_out hi24
              refine va_iast hx hb hK hP hD hS 10 0 rfl rfl g32 dX8_isCoveredBy_151 (fun H locs hP hD hS => ?_)
              have hP : va_P D vwCl (wdM cJ cI oM oM1 oM2 oM3 oM4 oM5 oM6 oM7 oM8 oM9 oM10 oM11 mw mt mrim mjn mhm mpn mbm mgm mpi mst mam mac mro mbe mhi mmi mgr (upd (upd mtr v2.toNatClampNeg y19) (v2 + (1 : Int32)).toNatClampNeg (-1 : Int32)) (vp_updL mle (v2 + (1 : Int32)).toNatClampNeg ((mle v2.toNatClampNeg) &&& ((mgr y19.toNatClampNeg) ^^^ (-1 : Int64))))) H := hP
              have hD : va_D A (wdM cJ cI oM oM1 oM2 oM3 oM4 oM5 oM6 oM7 oM8 oM9 oM10 oM11 mw mt mrim mjn mhm mpn mbm mgm mpi mst mam mac mro mbe mhi mmi mgr (upd (upd mtr v2.toNatClampNeg y19) (v2 + (1 : Int32)).toNatClampNeg (-1 : Int32)) (vp_updL mle (v2 + (1 : Int32)).toNatClampNeg ((mle v2.toNatClampNeg) &&& ((mgr y19.toNatClampNeg) ^^^ (-1 : Int64))))) := hD
              have hi24 := Option.some.inj hi24
              have e9 : j21 = (v2 + (1 : Int32)) := (congrArg (fun q => q.1) hi24).symm
              rw [e9] at key25
              have e9 : j22 = (upd (upd mtr v2.toNatClampNeg y19) (v2 + (1 : Int32)).toNatClampNeg (-1 : Int32)) := (congrArg (fun q => q.2.1) hi24).symm
              rw [e9] at key25
              have e9 : j23 = (vp_updL mle (v2 + (1 : Int32)).toNatClampNeg ((mle v2.toNatClampNeg) &&& ((mgr y19.toNatClampNeg) ^^^ (-1 : Int64)))) := (congrArg (fun q => q.2.2) hi24).symm
              rw [e9] at key25
              exact key25 ls (lv_sub hl [0, 2, 3] rfl) _ _ hP hD hS
          · rw [if_neg c26] at hi24
            refine lv_iinc (v := (v2 + (-1 : Int32))) (lv' := [(2, .int (v2 + (-1 : Int32))), (4, .int y19), (0, .ref oM), (1, .int v1)]) hx hb dX8_isCoveredBy_96 hl (k := 3) rfl (by rfl) (by decide) rfl (fun ls hl => ?_)
            refine lv_goto (tgt := 152) hx hb dX8_isCoveredBy_99 (by decide) ?_
            have hi24 := Option.some.inj hi24
            have e9 : j21 = (v2 + (-1 : Int32)) := (congrArg (fun q => q.1) hi24).symm
            rw [e9] at key25
            have e9 : j22 = mtr := (congrArg (fun q => q.2.1) hi24).symm
            rw [e9] at key25
            have e9 : j23 = mle := (congrArg (fun q => q.2.2) hi24).symm
            rw [e9] at key25
            exact key25 ls (lv_sub hl [0, 2, 3] rfl) _ _ hP hD hS
        refine lv_icmp_ne (tgt := 48) hx hb dX8_isCoveredBy_38 (by decide) (fun c12 => ?_) (fun c12 => ?_)
        · rw [if_neg c12] at hi10
          refine lv_aload_n hx hb dX8_isCoveredBy_48 rfl (lv_at hl 1 rfl) ?_
          refine va_get (D := D) (ci := 8) (v := .ref oM10) (C := RX8) (T := TX8) (N := 19) hx hb hts tnX8 hown hK hP 0 rfl rfl 17 (by decide) (hts _ qw_542) (fun _ h9 => h9) rfl dX8_isCoveredBy_49 ?_
          refine lv_iload_n hx hb dX8_isCoveredBy_52 rfl (lv_at hl 3 rfl) ?_
          obtain ⟨g13, hi10⟩ := gd_out hi10
          refine va_iald hx hb hK hP 10 0 rfl rfl g13 dX8_isCoveredBy_53 ?_
          refine lv_iconst (v := (1 : Int32)) hx hb dX8_isCoveredBy_54 (by decide) ?_
          refine lv_iadd hx hb dX8_isCoveredBy_55 ?_
          have hi10 := Option.some.inj hi10
          have e9 : j9 = ((mtr v2.toNatClampNeg) + (1 : Int32)) := (congrArg (fun q => q) hi10).symm
          rw [e9] at key11
          exact key11 ls (lv_sub hl [0, 1, 2, 3] rfl)
        · rw [if_pos c12] at hi10
          refine lv_aload_n hx hb dX8_isCoveredBy_41 rfl (lv_at hl 1 rfl) ?_
          refine va_get (D := D) (ci := 8) (v := .int mgm) (C := RX8) (T := TX8) (N := 19) hx hb hts tnX8 hown hK hP 0 rfl rfl 15 (by decide) (hts _ qw_528) (fun _ h9 => h9) rfl dX8_isCoveredBy_42 ?_
          refine lv_goto (tgt := 56) hx hb dX8_isCoveredBy_45 (by decide) ?_
          have hi10 := Option.some.inj hi10
          have e9 : j9 = mgm := (congrArg (fun q => q) hi10).symm
          rw [e9] at key11
          exact key11 ls (lv_sub hl [0, 1, 2, 3] rfl)
      · have c5 := (lg_cmp_eq (mle v2.toNatClampNeg) (0 : Int64)).mp c5
        rw [if_pos c5] at hm
        exact K0 _ _ (Option.some.inj hm).symm ls (lv_sub hl [] rfl) _ _ hP hD hS
set_option maxHeartbeats 4000000 in
set_option maxRecDepth 100000 in
theorem bX8_isCoveredBy {n : Nat} {a1 : Int32} {r : Int32} {y_mtr : (Nat → Int32)} {y_mle : (Nat → Int64)} (hx : p.tables.exec = Jvm.exec) (hb : c.code = cX8_isCoveredBy) (hml : c.maxLocals = 5) (hown : s.vm.findClass RX8 = some m.cls) (hts : ∀ w ∈ tw, w.before args s = true) (hK : va_K D vwCl [(cI, .int), (cJ, .long)] s) (hA : ∀ q, s.heap.size ≤ q → A q) (hR : 2 ≤ R.frames ∧ 44 ≤ R.locals ∧ cells ≤ R.cells ∧ slots ≤ R.slots) (hm : mX8_isCoveredBy n mgm mgr mtr mle a1 = some (r, y_mtr, y_mle)) (ls : Array Slot) (hl : lv_has ls 5 [(0, .ref oM), (1, .int a1)]) (hP : va_P D vwCl (wdM cJ cI oM oM1 oM2 oM3 oM4 oM5 oM6 oM7 oM8 oM9 oM10 oM11 mw mt mrim mjn mhm mpn mbm mgm mpi mst mam mac mro mbe mhi mmi mgr mtr mle) H) (hD : va_D A (wdM cJ cI oM oM1 oM2 oM3 oM4 oM5 oM6 oM7 oM8 oM9 oM10 oM11 mw mt mrim mjn mhm mpn mbm mgm mpi mst mam mac mro mbe mhi mmi mgr mtr mle)) (hS : va_S A s.heap H locs) (K : ∀ (pc : Nat) (ls : Array Slot) (H : Heap) (locs : List Loc), decode cX8_isCoveredBy pc = .ok (.ireturn, 1) → narrow .boolean (.int r) = .int r → va_P D vwCl (wdM cJ cI oM oM1 oM2 oM3 oM4 oM5 oM6 oM7 oM8 oM9 oM10 oM11 mw mt mrim mjn mhm mpn mbm mgm mpi mst mam mac mro mbe mhi mmi mgr y_mtr y_mle) H → va_D A (wdM cJ cI oM oM1 oM2 oM3 oM4 oM5 oM6 oM7 oM8 oM9 oM10 oM11 mw mt mrim mjn mhm mpn mbm mgm mpi mst mam mac mro mbe mhi mmi mgr y_mtr y_mle) → va_S A s.heap H locs → W p l e R s m args below meth c H locs cells slots Q (F0 m pc ls [.int r])) : W p l e R s m args below meth c H locs cells slots Q (F0 m 0 ls []) := by
  unfold mX8_isCoveredBy at hm
  refine lv_iconst (v := (0 : Int32)) hx hb dX8_isCoveredBy_0 (by decide) ?_
  refine lv_istore_n (lv' := [(2, .int (0 : Int32)), (0, .ref oM), (1, .int a1)]) hx hb dX8_isCoveredBy_1 rfl hl (by decide) rfl (fun ls hl => ?_)
  refine lv_aload_n hx hb dX8_isCoveredBy_2 rfl (lv_at hl 1 rfl) ?_
  refine va_get (D := D) (ci := 8) (v := .ref oM10) (C := RX8) (T := TX8) (N := 19) hx hb hts tnX8 hown hK hP 0 rfl rfl 17 (by decide) (hts _ qw_542) (fun _ h9 => h9) rfl dX8_isCoveredBy_3 ?_
  refine lv_iconst (v := (0 : Int32)) hx hb dX8_isCoveredBy_6 (by decide) ?_
  refine lv_iconst (v := (-1 : Int32)) hx hb dX8_isCoveredBy_7 (by decide) ?_
  obtain ⟨g1, hm⟩ := gd_out hm
  refine va_iast hx hb hK hP hD hS 10 0 rfl rfl g1 dX8_isCoveredBy_8 (fun H locs hP hD hS => ?_)
  have hP : va_P D vwCl (wdM cJ cI oM oM1 oM2 oM3 oM4 oM5 oM6 oM7 oM8 oM9 oM10 oM11 mw mt mrim mjn mhm mpn mbm mgm mpi mst mam mac mro mbe mhi mmi mgr (upd mtr (0 : Int32).toNatClampNeg (-1 : Int32)) mle) H := hP
  have hD : va_D A (wdM cJ cI oM oM1 oM2 oM3 oM4 oM5 oM6 oM7 oM8 oM9 oM10 oM11 mw mt mrim mjn mhm mpn mbm mgm mpi mst mam mac mro mbe mhi mmi mgr (upd mtr (0 : Int32).toNatClampNeg (-1 : Int32)) mle) := hD
  obtain ⟨z38, h37, hm⟩ := jb_out hm
  refine wX8_isCoveredBy_L9 hx hb hml hown hts hK hA hR n _ _ _ _ h37 ls (lv_sub hl [1, 2, 0] rfl) _ _ hP hD hS ?_ ?_
  · intro y33 y34 e39 ls hl H locs hP hD hS
    subst e39
    simp only [el2] at hm
    simp only [pr2] at hm
    refine lv_iconst (v := (1 : Int32)) hx hb dX8_isCoveredBy_24 (by decide) ?_
    have hm := Option.some.inj hm
    have e9 : r = (1 : Int32) := (congrArg (fun q => q.1) hm).symm
    rw [e9] at K
    have e9 : y_mtr = y33 := (congrArg (fun q => q.2.1) hm).symm
    rw [e9] at K
    have e9 : y_mle = y34 := (congrArg (fun q => q.2.2) hm).symm
    rw [e9] at K
    exact K 25 ls _ _ dX8_isCoveredBy_25 rfl hP hD hS
  · intro y35 y36 e40 ls hl H locs hP hD hS
    subst e40
    simp only [el2] at hm
    simp only [pr2] at hm
    refine lv_iconst (v := (0 : Int32)) hx hb dX8_isCoveredBy_155 (by decide) ?_
    have hm := Option.some.inj hm
    have e9 : r = (0 : Int32) := (congrArg (fun q => q.1) hm).symm
    rw [e9] at K
    have e9 : y_mtr = y35 := (congrArg (fun q => q.2.1) hm).symm
    rw [e9] at K
    have e9 : y_mle = y36 := (congrArg (fun q => q.2.2) hm).symm
    rw [e9] at K
    exact K 156 ls _ _ dX8_isCoveredBy_156 rfl hP hD hS
set_option maxHeartbeats 4000000 in
set_option maxRecDepth 100000 in
theorem tX8_isCoveredBy (l : Launch) {D : va_G} (sz : Nat) {n : Nat} {a1 : Int32} {r : Int32} {y_mtr : (Nat → Int32)} {y_mle : (Nat → Int64)} (hm : mX8_isCoveredBy n mgm mgr mtr mle a1 = some (r, y_mtr, y_mle)) : Met l yX8_isCoveredBy (.code yX8_isCoveredBy cX8_isCoveredBy 5 (some .boolean) :: tw) ({ frames := 2, cells := 0, slots := 0, locals := 44 } : Room) (wrP D [.ref oM, .int a1] (wdM cJ cI oM oM1 oM2 oM3 oM4 oM5 oM6 oM7 oM8 oM9 oM10 oM11 mw mt mrim mjn mhm mpn mbm mgm mpi mst mam mac mro mbe mhi mmi mgr mtr mle) [(cI, .int), (cJ, .long)] sz) (va_Qi (fun q (_ : Unit) => q = r ∧ narrow .boolean (.int q) = .int q) (fun (_ : Unit) (t : State) => va_P D vwCl (wdM cJ cI oM oM1 oM2 oM3 oM4 oM5 oM6 oM7 oM8 oM9 oM10 oM11 mw mt mrim mjn mhm mpn mbm mgm mpi mst mam mac mro mbe mhi mmi mgr y_mtr y_mle) t.heap ∧ va_K D vwCl [(cI, .int), (cJ, .long)] t ∧ va_D (va_A (wdM cJ cI oM oM1 oM2 oM3 oM4 oM5 oM6 oM7 oM8 oM9 oM10 oM11 mw mt mrim mjn mhm mpn mbm mgm mpi mst mam mac mro mbe mhi mmi mgr mtr mle) sz) (wdM cJ cI oM oM1 oM2 oM3 oM4 oM5 oM6 oM7 oM8 oM9 oM10 oM11 mw mt mrim mjn mhm mpn mbm mgm mpi mst mam mac mro mbe mhi mmi mgr y_mtr y_mle)) (va_A (wdM cJ cI oM oM1 oM2 oM3 oM4 oM5 oM6 oM7 oM8 oM9 oM10 oM11 mw mt mrim mjn mhm mpn mbm mgm mpi mst mam mac mro mbe mhi mmi mgr mtr mle) sz)) 0 0 (va_A (wdM cJ cI oM oM1 oM2 oM3 oM4 oM5 oM6 oM7 oM8 oM9 oM10 oM11 mw mt mrim mjn mhm mpn mbm mgm mpi mst mam mac mro mbe mhi mmi mgr mtr mle) sz) := by
  refine Met.ofW (cc := cX8_isCoveredBy) (maxL := 5) (ret := (some .boolean)) (by decide) rfl ?_
  intro p e s m args below meth c s₁ B hml hv
  obtain ⟨rfl, hsz, hP, hK, hD0⟩ := hv
  have hx := B.exec
  have hb := B.bytes
  have hr := B.returns
  have hts : ∀ w ∈ tw, w.before _ s = true := fun w h => atoms_spec (ws := .code yX8_isCoveredBy cX8_isCoveredBy 5 (some .boolean) :: tw) B.pre w (List.mem_cons_of_mem _ h)
  have hown : s.vm.findClass RX8 = some m.cls := findClass_of_methodNamed B.named
  have hlocks := B.notSynchronized
  subst hsz
  have hD := hD0.self (sz := s.heap.size)
  have hl := lv_entry ([.ref oM, .int a1]) (n := 5) (Nat.le_of_ble_eq_true rfl)
  rw [lg_entry_eq]
  generalize (lg_sl ([.ref oM, .int a1]) ++ List.replicate (5 - (lg_sl ([.ref oM, .int a1])).length) Slot.unset).toArray = ls at hl ⊢
  refine bX8_isCoveredBy hx hb hml hown hts hK (fun q h => Or.inr h) ⟨Nat.le_of_ble_eq_true rfl, Nat.le_of_ble_eq_true rfl, Nat.zero_le _, Nat.zero_le _⟩ hm ls hl hP hD va_S.rf (fun pc ls H locs hd hz hP hD hS => ?_)
  exact W.zret hx hb hr hz (fun t ht hW => ⟨⟨r, (), rfl, ⟨rfl, hz⟩, by rw [ht]; exact hP, va_K.moved hW.alike hK, hD⟩, hS.F ht⟩) hS.2.2 hd
set_option maxHeartbeats 4000000 in
set_option maxRecDepth 100000 in
theorem kX8_isCoveredBy {own : String} {cc : ByteArray} {nL idx pc : Nat} {ls : Array Slot} {rest : List Value} {ws wr : va_W} {n : Nat} {a1 : Int32} {r : Int32} {y_mtr : (Nat → Int32)} {y_mle : (Nat → Int64)} (fx : CallFix p m c cc nL s args tw own) (hq : Cond.methodLink own idx yX8_isCoveredBy ∈ tw) (isC isR : List Nat) (hC : isC.map (fun i => ws[i]?) = ((wdM cJ cI oM oM1 oM2 oM3 oM4 oM5 oM6 oM7 oM8 oM9 oM10 oM11 mw mt mrim mjn mhm mpn mbm mgm mpi mst mam mac mro mbe mhi mmi mgr mtr mle) : va_W).map some) (hRr : isR.map (fun i => ws[i]?) = wr.map some) (hnC : va_nd isC = true) (hn : va_nd isR = true) (hdis : ∀ i ∈ isR, i ∉ isC) (hK : va_K D vwCl [(cI, .int), (cJ, .long)] s) (hm : mX8_isCoveredBy n mgm mgr mtr mle a1 = some (r, y_mtr, y_mle)) (hsz : ls.size = nL) (hR : 3 ≤ R.frames ∧ 68 ≤ R.locals ∧ cells ≤ R.cells ∧ slots ≤ R.slots) (hst : (rest.map fun v => v.category).sum ≤ 8) (hd : decode cc pc = .ok (.invokevirtual idx, 3)) (hP : va_P D vwCl ws H) (hD : va_D A ws) (hS : va_S A s.heap H locs) (hA : ∀ q, s.heap.size ≤ q → A q) (kk : ∀ (H : Heap) (locs : List Loc), va_P D vwCl (wr ++ (wdM cJ cI oM oM1 oM2 oM3 oM4 oM5 oM6 oM7 oM8 oM9 oM10 oM11 mw mt mrim mjn mhm mpn mbm mgm mpi mst mam mac mro mbe mhi mmi mgr y_mtr y_mle)) H → va_D A (wr ++ (wdM cJ cI oM oM1 oM2 oM3 oM4 oM5 oM6 oM7 oM8 oM9 oM10 oM11 mw mt mrim mjn mhm mpn mbm mgm mpi mst mam mac mro mbe mhi mmi mgr y_mtr y_mle)) → va_S A s.heap H locs → W p l e R s m args below meth c H locs cells slots Q (F0 m (pc + 3) ls (.int r :: rest))) : W p l e R s m args below meth c H locs cells slots Q (F0 m pc ls (.int a1 :: .ref oM :: rest)) := by
  have hPc := va_P.subM hP isC hC
  have hDc := hD.sub isC hnC hC
  have hFc := va_free (wc := (wdM cJ cI oM oM1 oM2 oM3 oM4 oM5 oM6 oM7 oM8 oM9 oM10 oM11 mw mt mrim mjn mhm mpn mbm mgm mpi mst mam mac mro mbe mhi mmi mgr mtr mle)) hD hS hA isC hC
  refine va_calli (va_runV (As := [.int a1]) (rest := rest) fx (tX8_isCoveredBy l H.size hm) (cwV 1 fx.2.2.2.2 (tw_V hq qw_544 qw_545 qw_53 qw_546) rfl rfl rfl (by decide +kernel) ⟨hR.1, hR.2.1⟩) ⟨wrP_bl, va_recv hK hPc (ci := 8) (q0 := 0) rfl rfl, wrP_ok hPc hK hDc⟩ rfl rfl hsz rfl (lv_room hst) hd ⟨hR.2.2.1, hR.2.2.2⟩) hS (fun q _ h => hFc q h) hFc (fun r9 u t H1 locs ht hvm hw hB hz1 hk1 hS => ?_)
  obtain ⟨hP1, hK1, hD1⟩ := hB
  rw [ht] at hP1
  rw [hw.1]
  obtain ⟨hP2, hD2⟩ := va_join (wr := wr) (w1 := (wdM cJ cI oM oM1 oM2 oM3 oM4 oM5 oM6 oM7 oM8 oM9 oM10 oM11 mw mt mrim mjn mhm mpn mbm mgm mpi mst mam mac mro mbe mhi mmi mgr y_mtr y_mle)) hP hD isC isR hC hRr hn hdis hk1 hFc hP1 hD1
  exact kk H1 locs hP2 hD2 hS
-- X8_covered
def mX8_covered_L50 (n : Nat) (mgm : Int32) (mgr : Nat → Int64) : Nat → (Int32) → (Nat → Int32) → (Nat → Int64) → Option ((Int32) × (Nat → Int32) × (Nat → Int64))
  | 0, _, _, _ => none
  | k + 1, v2, mtr, mle => jb3 (mX8_isCoveredBy n mgm mgr mtr mle v2) (fun (r18 : Int32) (y19 : Nat → Int32) (y20 : Nat → Int64) => (if r18 = 0 then mX8_covered_L50 n mgm mgr k (v2 + (1 : Int32)) y19 y20 else some ((v2, y19, y20))))
def mX8_covered (n : Nat) (mbm : Int32) (mgm : Int32) (mgr : Nat → Int64) (mtr : Nat → Int32) (mle : Nat → Int64) (mpi : Nat → Int64) (mw : Int32) (mt : Int32) (a1 : Int32) : Option (Int32 × (Int32) × (Int32) × (Nat → Int64) × (Nat → Int32) × (Nat → Int64)) :=
  (if (mX8_isPicture a1) = 0 then (some ((-1 : Int32), mbm, mgm, mgr, mtr, mle)) else gd (ib a1 5) (jb (mX8_many n (mpi a1.toNatClampNeg)) (fun (r4 : Int32) => (if r4 ≤ (20 : Int32) then gd (ib a1 5) (jb3 (mX8_layBoxes n mw mt mgr (mpi a1.toNatClampNeg)) (fun (y10 : Int32) (y11 : Int32) (y12 : Nat → Int64) => gd (ib a1 5) (gd (ib (0 : Int32) 22) (jb3 (mX8_covered_L50 n y11 y12 n (0 : Int32) mtr (vp_updL mle (0 : Int32).toNatClampNeg (mpi a1.toNatClampNeg))) (fun (y22 : Int32) (y23 : Nat → Int32) (y24 : Nat → Int64) => (some (y22, y10, y11, y12, y23, y24))))))) else (some ((-3 : Int32), mbm, mgm, mgr, mtr, mle))))))
theorem dX8_covered_0 : decode cX8_covered 0 = .ok (.iload_n 1, 1) := by decide +kernel
theorem dX8_covered_1 : decode cX8_covered 1 = .ok (.invokestatic 71, 3) := by decide +kernel
theorem dX8_covered_4 : decode cX8_covered 4 = .ok (.ifCond .ne 5, 3) := by decide +kernel
theorem dX8_covered_7 : decode cX8_covered 7 = .ok (.iconst (-1), 1) := by decide +kernel
theorem dX8_covered_8 : decode cX8_covered 8 = .ok (.ireturn, 1) := by decide +kernel
theorem dX8_covered_9 : decode cX8_covered 9 = .ok (.aload_n 0, 1) := by decide +kernel
theorem dX8_covered_10 : decode cX8_covered 10 = .ok (.getfield 16, 3) := by decide +kernel
theorem dX8_covered_13 : decode cX8_covered 13 = .ok (.iload_n 1, 1) := by decide +kernel
theorem dX8_covered_14 : decode cX8_covered 14 = .ok (.laload, 1) := by decide +kernel
theorem dX8_covered_15 : decode cX8_covered 15 = .ok (.invokestatic 88, 3) := by decide +kernel
theorem dX8_covered_18 : decode cX8_covered 18 = .ok (.bipush 20, 2) := by decide +kernel
theorem dX8_covered_20 : decode cX8_covered 20 = .ok (.if_icmp .le 6, 3) := by decide +kernel
theorem dX8_covered_23 : decode cX8_covered 23 = .ok (.bipush (-3), 2) := by decide +kernel
theorem dX8_covered_25 : decode cX8_covered 25 = .ok (.ireturn, 1) := by decide +kernel
theorem dX8_covered_26 : decode cX8_covered 26 = .ok (.aload_n 0, 1) := by decide +kernel
theorem dX8_covered_27 : decode cX8_covered 27 = .ok (.aload_n 0, 1) := by decide +kernel
theorem dX8_covered_28 : decode cX8_covered 28 = .ok (.getfield 16, 3) := by decide +kernel
theorem dX8_covered_31 : decode cX8_covered 31 = .ok (.iload_n 1, 1) := by decide +kernel
theorem dX8_covered_32 : decode cX8_covered 32 = .ok (.laload, 1) := by decide +kernel
theorem dX8_covered_33 : decode cX8_covered 33 = .ok (.invokevirtual 178, 3) := by decide +kernel
theorem dX8_covered_36 : decode cX8_covered 36 = .ok (.aload_n 0, 1) := by decide +kernel
theorem dX8_covered_37 : decode cX8_covered 37 = .ok (.getfield 54, 3) := by decide +kernel
theorem dX8_covered_40 : decode cX8_covered 40 = .ok (.iconst 0, 1) := by decide +kernel
theorem dX8_covered_41 : decode cX8_covered 41 = .ok (.aload_n 0, 1) := by decide +kernel
theorem dX8_covered_42 : decode cX8_covered 42 = .ok (.getfield 16, 3) := by decide +kernel
theorem dX8_covered_45 : decode cX8_covered 45 = .ok (.iload_n 1, 1) := by decide +kernel
theorem dX8_covered_46 : decode cX8_covered 46 = .ok (.laload, 1) := by decide +kernel
theorem dX8_covered_47 : decode cX8_covered 47 = .ok (.lastore, 1) := by decide +kernel
theorem dX8_covered_48 : decode cX8_covered 48 = .ok (.iconst 0, 1) := by decide +kernel
theorem dX8_covered_49 : decode cX8_covered 49 = .ok (.istore_n 2, 1) := by decide +kernel
theorem dX8_covered_50 : decode cX8_covered 50 = .ok (.aload_n 0, 1) := by decide +kernel
theorem dX8_covered_51 : decode cX8_covered 51 = .ok (.iload_n 2, 1) := by decide +kernel
theorem dX8_covered_52 : decode cX8_covered 52 = .ok (.invokevirtual 185, 3) := by decide +kernel
theorem dX8_covered_55 : decode cX8_covered 55 = .ok (.ifCond .ne 9, 3) := by decide +kernel
theorem dX8_covered_58 : decode cX8_covered 58 = .ok (.iinc 2 1, 3) := by decide +kernel
theorem dX8_covered_61 : decode cX8_covered 61 = .ok (.goto (-11), 3) := by decide +kernel
theorem dX8_covered_64 : decode cX8_covered 64 = .ok (.iload_n 2, 1) := by decide +kernel
theorem dX8_covered_65 : decode cX8_covered 65 = .ok (.ireturn, 1) := by decide +kernel
set_option maxHeartbeats 4000000 in
set_option maxRecDepth 100000 in
theorem wX8_covered_L50 {n : Nat} (hx : p.tables.exec = Jvm.exec) (hb : c.code = cX8_covered) (hml : c.maxLocals = 3) (hown : s.vm.findClass RX8 = some m.cls) (hts : ∀ w ∈ tw, w.before args s = true) (hK : va_K D vwCl [(cI, .int), (cJ, .long)] s) (hA : ∀ q, s.heap.size ≤ q → A q) (hR : 5 ≤ R.frames ∧ 134 ≤ R.locals ∧ cells ≤ R.cells ∧ slots ≤ R.slots) : ∀ (k : Nat) (v2 : Int32) (mtr : Nat → Int32) (mle : Nat → Int64) (x2 : Int32) (x_mtr : Nat → Int32) (x_mle : Nat → Int64), mX8_covered_L50 n mgm mgr k v2 mtr mle = some (x2, x_mtr, x_mle) → ∀ ls : Array Slot, lv_has ls 3 [(0, .ref oM), (2, .int v2)] → ∀ (H : Heap) (locs : List Loc), va_P D vwCl (wdM cJ cI oM oM1 oM2 oM3 oM4 oM5 oM6 oM7 oM8 oM9 oM10 oM11 mw mt mrim mjn mhm mpn mbm mgm mpi mst mam mac mro mbe mhi mmi mgr mtr mle) H → va_D A (wdM cJ cI oM oM1 oM2 oM3 oM4 oM5 oM6 oM7 oM8 oM9 oM10 oM11 mw mt mrim mjn mhm mpn mbm mgm mpi mst mam mac mro mbe mhi mmi mgr mtr mle) → va_S A s.heap H locs → (∀ ls : Array Slot, lv_has ls 3 [(2, .int x2)] → ∀ (H : Heap) (locs : List Loc), va_P D vwCl (wdM cJ cI oM oM1 oM2 oM3 oM4 oM5 oM6 oM7 oM8 oM9 oM10 oM11 mw mt mrim mjn mhm mpn mbm mgm mpi mst mam mac mro mbe mhi mmi mgr x_mtr x_mle) H → va_D A (wdM cJ cI oM oM1 oM2 oM3 oM4 oM5 oM6 oM7 oM8 oM9 oM10 oM11 mw mt mrim mjn mhm mpn mbm mgm mpi mst mam mac mro mbe mhi mmi mgr x_mtr x_mle) → va_S A s.heap H locs → W p l e R s m args below meth c H locs cells slots Q (F0 m 64 ls [])) → W p l e R s m args below meth c H locs cells slots Q (F0 m 50 ls []) := by
  intro k
  induction k with
  | zero => intro v2 mtr mle x2 x_mtr x_mle hm; rw [mX8_covered_L50] at hm; cases hm
  | succ k ih =>
    intro v2 mtr mle x2 x_mtr x_mle hm ls hl H locs hP hD hS K0
    rw [mX8_covered_L50] at hm
    refine lv_aload_n hx hb dX8_covered_50 rfl (lv_at hl 0 rfl) ?_
    refine lv_iload_n hx hb dX8_covered_51 rfl (lv_at hl 1 rfl) ?_
    obtain ⟨r18, y19, y20, h17, hm⟩ := jb_out3 hm
    refine kX8_isCoveredBy (ws := (wdM cJ cI oM oM1 oM2 oM3 oM4 oM5 oM6 oM7 oM8 oM9 oM10 oM11 mw mt mrim mjn mhm mpn mbm mgm mpi mst mam mac mro mbe mhi mmi mgr mtr mle)) (wr := []) ⟨hx, hb, hml, hown, hts⟩ qw_547 [0, 1, 2, 3, 4, 5, 6, 7, 8, 9, 10, 11] [] rfl rfl (by decide) (by decide) (by decide) hK h17 hl.1 ⟨Nat.le_trans (by decide) hR.1, Nat.le_trans (by decide) hR.2.1, hR.2.2⟩ (Nat.le_of_ble_eq_true rfl) dX8_covered_52 hP hD hS hA (fun H locs hP hD hS => ?_)
    have hP : va_P D vwCl (wdM cJ cI oM oM1 oM2 oM3 oM4 oM5 oM6 oM7 oM8 oM9 oM10 oM11 mw mt mrim mjn mhm mpn mbm mgm mpi mst mam mac mro mbe mhi mmi mgr y19 y20) H := hP.sub [0, 1, 2, 3, 4, 5, 6, 7, 8, 9, 10, 11] rfl
    have hD : va_D A (wdM cJ cI oM oM1 oM2 oM3 oM4 oM5 oM6 oM7 oM8 oM9 oM10 oM11 mw mt mrim mjn mhm mpn mbm mgm mpi mst mam mac mro mbe mhi mmi mgr y19 y20) := hD.sub [0, 1, 2, 3, 4, 5, 6, 7, 8, 9, 10, 11] (by decide) rfl
    refine lv_if_ne (tgt := 64) hx hb dX8_covered_55 (by decide) (fun c21 => ?_) (fun c21 => ?_)
    · rw [if_neg c21] at hm
      have hm := Option.some.inj hm
      have e9 : x2 = v2 := (congrArg (fun q => q.1) hm).symm
      rw [e9] at K0
      have e9 : x_mtr = y19 := (congrArg (fun q => q.2.1) hm).symm
      rw [e9] at K0
      have e9 : x_mle = y20 := (congrArg (fun q => q.2.2) hm).symm
      rw [e9] at K0
      exact K0 ls (lv_sub hl [1] rfl) _ _ hP hD hS
    · rw [if_pos c21] at hm
      refine lv_iinc (v := (v2 + (1 : Int32))) (lv' := [(2, .int (v2 + (1 : Int32))), (0, .ref oM)]) hx hb dX8_covered_58 hl (k := 1) rfl (by rfl) (by decide) rfl (fun ls hl => ?_)
      refine lv_goto (tgt := 50) hx hb dX8_covered_61 (by decide) ?_
      exact ih _ _ _ _ _ _ hm ls (lv_sub hl [1, 0] rfl) _ _ hP hD hS K0
set_option maxHeartbeats 4000000 in
set_option maxRecDepth 100000 in
theorem bX8_covered {n : Nat} {a1 : Int32} {r : Int32} {y_mbm : (Int32)} {y_mgm : (Int32)} {y_mgr : (Nat → Int64)} {y_mtr : (Nat → Int32)} {y_mle : (Nat → Int64)} (hx : p.tables.exec = Jvm.exec) (hb : c.code = cX8_covered) (hml : c.maxLocals = 3) (hown : s.vm.findClass RX8 = some m.cls) (hts : ∀ w ∈ tw, w.before args s = true) (hK : va_K D vwCl [(cI, .int), (cJ, .long)] s) (hA : ∀ q, s.heap.size ≤ q → A q) (hR : 5 ≤ R.frames ∧ 134 ≤ R.locals ∧ cells ≤ R.cells ∧ slots ≤ R.slots) (hm : mX8_covered n mbm mgm mgr mtr mle mpi mw mt a1 = some (r, y_mbm, y_mgm, y_mgr, y_mtr, y_mle)) (ls : Array Slot) (hl : lv_has ls 3 [(0, .ref oM), (1, .int a1)]) (hP : va_P D vwCl (wdM cJ cI oM oM1 oM2 oM3 oM4 oM5 oM6 oM7 oM8 oM9 oM10 oM11 mw mt mrim mjn mhm mpn mbm mgm mpi mst mam mac mro mbe mhi mmi mgr mtr mle) H) (hD : va_D A (wdM cJ cI oM oM1 oM2 oM3 oM4 oM5 oM6 oM7 oM8 oM9 oM10 oM11 mw mt mrim mjn mhm mpn mbm mgm mpi mst mam mac mro mbe mhi mmi mgr mtr mle)) (hS : va_S A s.heap H locs) (K : ∀ (pc : Nat) (ls : Array Slot) (H : Heap) (locs : List Loc), decode cX8_covered pc = .ok (.ireturn, 1) → va_P D vwCl (wdM cJ cI oM oM1 oM2 oM3 oM4 oM5 oM6 oM7 oM8 oM9 oM10 oM11 mw mt mrim mjn mhm mpn y_mbm y_mgm mpi mst mam mac mro mbe mhi mmi y_mgr y_mtr y_mle) H → va_D A (wdM cJ cI oM oM1 oM2 oM3 oM4 oM5 oM6 oM7 oM8 oM9 oM10 oM11 mw mt mrim mjn mhm mpn y_mbm y_mgm mpi mst mam mac mro mbe mhi mmi y_mgr y_mtr y_mle) → va_S A s.heap H locs → W p l e R s m args below meth c H locs cells slots Q (F0 m pc ls [.int r])) : W p l e R s m args below meth c H locs cells slots Q (F0 m 0 ls []) := by
  unfold mX8_covered at hm
  refine lv_iload_n hx hb dX8_covered_0 rfl (lv_at hl 1 rfl) ?_
  refine kX8_isPicture ⟨hx, hb, hml, hown, hts⟩ qw_101 hl.1 ⟨Nat.le_trans (by decide) hR.1, Nat.le_trans (by decide) hR.2.1, hR.2.2⟩ (Nat.le_of_ble_eq_true rfl) dX8_covered_1 ?_
  refine lv_if_ne (tgt := 9) hx hb dX8_covered_4 (by decide) (fun c2 => ?_) (fun c2 => ?_)
  · rw [if_neg c2] at hm
    refine lv_aload_n hx hb dX8_covered_9 rfl (lv_at hl 0 rfl) ?_
    refine va_get (D := D) (ci := 8) (v := .ref oM1) (C := RX8) (T := TX8) (N := 19) hx hb hts tnX8 hown hK hP 0 rfl rfl 2 (by decide) (hts _ qw_103) (fun _ h9 => h9) rfl dX8_covered_10 ?_
    refine lv_iload_n hx hb dX8_covered_13 rfl (lv_at hl 1 rfl) ?_
    obtain ⟨g3, hm⟩ := gd_out hm
    refine va_lald hx hb hK hP 1 1 rfl rfl g3 dX8_covered_14 ?_
    obtain ⟨r4, h5, hm⟩ := jb_out hm
    refine kX8_many ⟨hx, hb, hml, hown, hts⟩ qw_112 h5 hl.1 ⟨Nat.le_trans (by decide) hR.1, Nat.le_trans (by decide) hR.2.1, hR.2.2⟩ (Nat.le_of_ble_eq_true rfl) dX8_covered_15 ?_
    refine lv_bipush (v := (20 : Int32)) hx hb dX8_covered_18 (by decide) ?_
    refine lv_icmp_le (tgt := 26) hx hb dX8_covered_20 (by decide) (fun c6 => ?_) (fun c6 => ?_)
    · rw [if_pos c6] at hm
      refine lv_aload_n hx hb dX8_covered_26 rfl (lv_at hl 0 rfl) ?_
      refine lv_aload_n hx hb dX8_covered_27 rfl (lv_at hl 0 rfl) ?_
      refine va_get (D := D) (ci := 8) (v := .ref oM1) (C := RX8) (T := TX8) (N := 19) hx hb hts tnX8 hown hK hP 0 rfl rfl 2 (by decide) (hts _ qw_103) (fun _ h9 => h9) rfl dX8_covered_28 ?_
      refine lv_iload_n hx hb dX8_covered_31 rfl (lv_at hl 1 rfl) ?_
      obtain ⟨g7, hm⟩ := gd_out hm
      refine va_lald hx hb hK hP 1 1 rfl rfl g7 dX8_covered_32 ?_
      obtain ⟨y10, y11, y12, h9, hm⟩ := jb_out3 hm
      refine kX8_layBoxes (ws := (wdM cJ cI oM oM1 oM2 oM3 oM4 oM5 oM6 oM7 oM8 oM9 oM10 oM11 mw mt mrim mjn mhm mpn mbm mgm mpi mst mam mac mro mbe mhi mmi mgr mtr mle)) (wr := []) ⟨hx, hb, hml, hown, hts⟩ qw_534 [0, 1, 2, 3, 4, 5, 6, 7, 8, 9, 10, 11] [] rfl rfl (by decide) (by decide) (by decide) hK h9 hl.1 ⟨Nat.le_trans (by decide) hR.1, Nat.le_trans (by decide) hR.2.1, hR.2.2⟩ (Nat.le_of_ble_eq_true rfl) dX8_covered_33 hP hD hS hA (fun H locs hP hD hS => ?_)
      have hP : va_P D vwCl (wdM cJ cI oM oM1 oM2 oM3 oM4 oM5 oM6 oM7 oM8 oM9 oM10 oM11 mw mt mrim mjn mhm mpn y10 y11 mpi mst mam mac mro mbe mhi mmi y12 mtr mle) H := hP.sub [0, 1, 2, 3, 4, 5, 6, 7, 8, 9, 10, 11] rfl
      have hD : va_D A (wdM cJ cI oM oM1 oM2 oM3 oM4 oM5 oM6 oM7 oM8 oM9 oM10 oM11 mw mt mrim mjn mhm mpn y10 y11 mpi mst mam mac mro mbe mhi mmi y12 mtr mle) := hD.sub [0, 1, 2, 3, 4, 5, 6, 7, 8, 9, 10, 11] (by decide) rfl
      refine lv_aload_n hx hb dX8_covered_36 rfl (lv_at hl 0 rfl) ?_
      refine va_get (D := D) (ci := 8) (v := .ref oM11) (C := RX8) (T := TX8) (N := 19) hx hb hts tnX8 hown hK hP 0 rfl rfl 18 (by decide) (hts _ qw_543) (fun _ h9 => h9) rfl dX8_covered_37 ?_
      refine lv_iconst (v := (0 : Int32)) hx hb dX8_covered_40 (by decide) ?_
      refine lv_aload_n hx hb dX8_covered_41 rfl (lv_at hl 0 rfl) ?_
      refine va_get (D := D) (ci := 8) (v := .ref oM1) (C := RX8) (T := TX8) (N := 19) hx hb hts tnX8 hown hK hP 0 rfl rfl 2 (by decide) (hts _ qw_103) (fun _ h9 => h9) rfl dX8_covered_42 ?_
      refine lv_iload_n hx hb dX8_covered_45 rfl (lv_at hl 1 rfl) ?_
      obtain ⟨g13, hm⟩ := gd_out hm
      refine va_lald hx hb hK hP 1 1 rfl rfl g13 dX8_covered_46 ?_
      obtain ⟨g14, hm⟩ := gd_out hm
      refine va_last hx hb hK hP hD hS 11 1 rfl rfl g14 dX8_covered_47 (fun H locs hP hD hS => ?_)
      have hP : va_P D vwCl (wdM cJ cI oM oM1 oM2 oM3 oM4 oM5 oM6 oM7 oM8 oM9 oM10 oM11 mw mt mrim mjn mhm mpn y10 y11 mpi mst mam mac mro mbe mhi mmi y12 mtr (vp_updL mle (0 : Int32).toNatClampNeg (mpi a1.toNatClampNeg))) H := hP
      have hD : va_D A (wdM cJ cI oM oM1 oM2 oM3 oM4 oM5 oM6 oM7 oM8 oM9 oM10 oM11 mw mt mrim mjn mhm mpn y10 y11 mpi mst mam mac mro mbe mhi mmi y12 mtr (vp_updL mle (0 : Int32).toNatClampNeg (mpi a1.toNatClampNeg))) := hD
      refine lv_iconst (v := (0 : Int32)) hx hb dX8_covered_48 (by decide) ?_
      refine lv_istore_n (lv' := [(2, .int (0 : Int32)), (0, .ref oM), (1, .int a1)]) hx hb dX8_covered_49 rfl hl (by decide) rfl (fun ls hl => ?_)
      obtain ⟨y22, y23, y24, h25, hm⟩ := jb_out3 hm
      refine wX8_covered_L50 hx hb hml hown hts hK hA hR n _ _ _ _ _ _  h25 ls (lv_sub hl [1, 0] rfl) _ _ hP hD hS (fun ls hl H locs hP hD hS => ?_)
      refine lv_iload_n hx hb dX8_covered_64 rfl (lv_at hl 0 rfl) ?_
      have hm := Option.some.inj hm
      have e9 : r = y22 := (congrArg (fun q => q.1) hm).symm
      rw [e9] at K
      have e9 : y_mbm = y10 := (congrArg (fun q => q.2.1) hm).symm
      rw [e9] at K
      have e9 : y_mgm = y11 := (congrArg (fun q => q.2.2.1) hm).symm
      rw [e9] at K
      have e9 : y_mgr = y12 := (congrArg (fun q => q.2.2.2.1) hm).symm
      rw [e9] at K
      have e9 : y_mtr = y23 := (congrArg (fun q => q.2.2.2.2.1) hm).symm
      rw [e9] at K
      have e9 : y_mle = y24 := (congrArg (fun q => q.2.2.2.2.2) hm).symm
      rw [e9] at K
      exact K 65 ls _ _ dX8_covered_65 hP hD hS
    · rw [if_neg c6] at hm
      refine lv_bipush (v := (-3 : Int32)) hx hb dX8_covered_23 (by decide) ?_
      have hm := Option.some.inj hm
      have e9 : r = (-3 : Int32) := (congrArg (fun q => q.1) hm).symm
      rw [e9] at K
      have e9 : y_mbm = mbm := (congrArg (fun q => q.2.1) hm).symm
      rw [e9] at K
      have e9 : y_mgm = mgm := (congrArg (fun q => q.2.2.1) hm).symm
      rw [e9] at K
      have e9 : y_mgr = mgr := (congrArg (fun q => q.2.2.2.1) hm).symm
      rw [e9] at K
      have e9 : y_mtr = mtr := (congrArg (fun q => q.2.2.2.2.1) hm).symm
      rw [e9] at K
      have e9 : y_mle = mle := (congrArg (fun q => q.2.2.2.2.2) hm).symm
      rw [e9] at K
      exact K 25 ls _ _ dX8_covered_25 hP hD hS
  · rw [if_pos c2] at hm
    refine lv_iconst (v := (-1 : Int32)) hx hb dX8_covered_7 (by decide) ?_
    have hm := Option.some.inj hm
    have e9 : r = (-1 : Int32) := (congrArg (fun q => q.1) hm).symm
    rw [e9] at K
    have e9 : y_mbm = mbm := (congrArg (fun q => q.2.1) hm).symm
    rw [e9] at K
    have e9 : y_mgm = mgm := (congrArg (fun q => q.2.2.1) hm).symm
    rw [e9] at K
    have e9 : y_mgr = mgr := (congrArg (fun q => q.2.2.2.1) hm).symm
    rw [e9] at K
    have e9 : y_mtr = mtr := (congrArg (fun q => q.2.2.2.2.1) hm).symm
    rw [e9] at K
    have e9 : y_mle = mle := (congrArg (fun q => q.2.2.2.2.2) hm).symm
    rw [e9] at K
    exact K 8 ls _ _ dX8_covered_8 hP hD hS
set_option maxHeartbeats 4000000 in
set_option maxRecDepth 100000 in
theorem tX8_covered (l : Launch) {D : va_G} (sz : Nat) {n : Nat} {a1 : Int32} {r : Int32} {y_mbm : (Int32)} {y_mgm : (Int32)} {y_mgr : (Nat → Int64)} {y_mtr : (Nat → Int32)} {y_mle : (Nat → Int64)} (hm : mX8_covered n mbm mgm mgr mtr mle mpi mw mt a1 = some (r, y_mbm, y_mgm, y_mgr, y_mtr, y_mle)) : Met l yX8_covered (.code yX8_covered cX8_covered 3 (some .int) :: tw) ({ frames := 5, cells := 0, slots := 0, locals := 134 } : Room) (wrP D [.ref oM, .int a1] (wdM cJ cI oM oM1 oM2 oM3 oM4 oM5 oM6 oM7 oM8 oM9 oM10 oM11 mw mt mrim mjn mhm mpn mbm mgm mpi mst mam mac mro mbe mhi mmi mgr mtr mle) [(cI, .int), (cJ, .long)] sz) (va_Qi (fun q (_ : Unit) => q = r) (fun (_ : Unit) (t : State) => va_P D vwCl (wdM cJ cI oM oM1 oM2 oM3 oM4 oM5 oM6 oM7 oM8 oM9 oM10 oM11 mw mt mrim mjn mhm mpn y_mbm y_mgm mpi mst mam mac mro mbe mhi mmi y_mgr y_mtr y_mle) t.heap ∧ va_K D vwCl [(cI, .int), (cJ, .long)] t ∧ va_D (va_A (wdM cJ cI oM oM1 oM2 oM3 oM4 oM5 oM6 oM7 oM8 oM9 oM10 oM11 mw mt mrim mjn mhm mpn mbm mgm mpi mst mam mac mro mbe mhi mmi mgr mtr mle) sz) (wdM cJ cI oM oM1 oM2 oM3 oM4 oM5 oM6 oM7 oM8 oM9 oM10 oM11 mw mt mrim mjn mhm mpn y_mbm y_mgm mpi mst mam mac mro mbe mhi mmi y_mgr y_mtr y_mle)) (va_A (wdM cJ cI oM oM1 oM2 oM3 oM4 oM5 oM6 oM7 oM8 oM9 oM10 oM11 mw mt mrim mjn mhm mpn mbm mgm mpi mst mam mac mro mbe mhi mmi mgr mtr mle) sz)) 0 0 (va_A (wdM cJ cI oM oM1 oM2 oM3 oM4 oM5 oM6 oM7 oM8 oM9 oM10 oM11 mw mt mrim mjn mhm mpn mbm mgm mpi mst mam mac mro mbe mhi mmi mgr mtr mle) sz) := by
  refine Met.ofW (cc := cX8_covered) (maxL := 3) (ret := (some .int)) (by decide) rfl ?_
  intro p e s m args below meth c s₁ B hml hv
  obtain ⟨rfl, hsz, hP, hK, hD0⟩ := hv
  have hx := B.exec
  have hb := B.bytes
  have hr := B.returns
  have hts : ∀ w ∈ tw, w.before _ s = true := fun w h => atoms_spec (ws := .code yX8_covered cX8_covered 3 (some .int) :: tw) B.pre w (List.mem_cons_of_mem _ h)
  have hown : s.vm.findClass RX8 = some m.cls := findClass_of_methodNamed B.named
  have hlocks := B.notSynchronized
  subst hsz
  have hD := hD0.self (sz := s.heap.size)
  have hl := lv_entry ([.ref oM, .int a1]) (n := 3) (Nat.le_of_ble_eq_true rfl)
  rw [lg_entry_eq]
  generalize (lg_sl ([.ref oM, .int a1]) ++ List.replicate (3 - (lg_sl ([.ref oM, .int a1])).length) Slot.unset).toArray = ls at hl ⊢
  refine bX8_covered hx hb hml hown hts hK (fun q h => Or.inr h) ⟨Nat.le_of_ble_eq_true rfl, Nat.le_of_ble_eq_true rfl, Nat.zero_le _, Nat.zero_le _⟩ hm ls hl hP hD va_S.rf (fun pc ls H locs hd hP hD hS => ?_)
  exact W.iret hx hb hr (fun t ht hW => ⟨⟨r, (), rfl, rfl, by rw [ht]; exact hP, va_K.moved hW.alike hK, hD⟩, hS.F ht⟩) hS.2.2 hd
set_option maxHeartbeats 4000000 in
set_option maxRecDepth 100000 in
theorem kX8_covered {own : String} {cc : ByteArray} {nL idx pc : Nat} {ls : Array Slot} {rest : List Value} {ws wr : va_W} {n : Nat} {a1 : Int32} {r : Int32} {y_mbm : (Int32)} {y_mgm : (Int32)} {y_mgr : (Nat → Int64)} {y_mtr : (Nat → Int32)} {y_mle : (Nat → Int64)} (fx : CallFix p m c cc nL s args tw own) (hq : Cond.methodLink own idx yX8_covered ∈ tw) (isC isR : List Nat) (hC : isC.map (fun i => ws[i]?) = ((wdM cJ cI oM oM1 oM2 oM3 oM4 oM5 oM6 oM7 oM8 oM9 oM10 oM11 mw mt mrim mjn mhm mpn mbm mgm mpi mst mam mac mro mbe mhi mmi mgr mtr mle) : va_W).map some) (hRr : isR.map (fun i => ws[i]?) = wr.map some) (hnC : va_nd isC = true) (hn : va_nd isR = true) (hdis : ∀ i ∈ isR, i ∉ isC) (hK : va_K D vwCl [(cI, .int), (cJ, .long)] s) (hm : mX8_covered n mbm mgm mgr mtr mle mpi mw mt a1 = some (r, y_mbm, y_mgm, y_mgr, y_mtr, y_mle)) (hsz : ls.size = nL) (hR : 6 ≤ R.frames ∧ 156 ≤ R.locals ∧ cells ≤ R.cells ∧ slots ≤ R.slots) (hst : (rest.map fun v => v.category).sum ≤ 8) (hd : decode cc pc = .ok (.invokevirtual idx, 3)) (hP : va_P D vwCl ws H) (hD : va_D A ws) (hS : va_S A s.heap H locs) (hA : ∀ q, s.heap.size ≤ q → A q) (kk : ∀ (H : Heap) (locs : List Loc), va_P D vwCl (wr ++ (wdM cJ cI oM oM1 oM2 oM3 oM4 oM5 oM6 oM7 oM8 oM9 oM10 oM11 mw mt mrim mjn mhm mpn y_mbm y_mgm mpi mst mam mac mro mbe mhi mmi y_mgr y_mtr y_mle)) H → va_D A (wr ++ (wdM cJ cI oM oM1 oM2 oM3 oM4 oM5 oM6 oM7 oM8 oM9 oM10 oM11 mw mt mrim mjn mhm mpn y_mbm y_mgm mpi mst mam mac mro mbe mhi mmi y_mgr y_mtr y_mle)) → va_S A s.heap H locs → W p l e R s m args below meth c H locs cells slots Q (F0 m (pc + 3) ls (.int r :: rest))) : W p l e R s m args below meth c H locs cells slots Q (F0 m pc ls (.int a1 :: .ref oM :: rest)) := by
  have hPc := va_P.subM hP isC hC
  have hDc := hD.sub isC hnC hC
  have hFc := va_free (wc := (wdM cJ cI oM oM1 oM2 oM3 oM4 oM5 oM6 oM7 oM8 oM9 oM10 oM11 mw mt mrim mjn mhm mpn mbm mgm mpi mst mam mac mro mbe mhi mmi mgr mtr mle)) hD hS hA isC hC
  refine va_calli (va_runV (As := [.int a1]) (rest := rest) fx (tX8_covered l H.size hm) (cwV 1 fx.2.2.2.2 (tw_V hq qw_548 qw_549 qw_53 qw_550) rfl rfl rfl (by decide +kernel) ⟨hR.1, hR.2.1⟩) ⟨wrP_bl, va_recv hK hPc (ci := 8) (q0 := 0) rfl rfl, wrP_ok hPc hK hDc⟩ rfl rfl hsz rfl (lv_room hst) hd ⟨hR.2.2.1, hR.2.2.2⟩) hS (fun q _ h => hFc q h) hFc (fun r9 u t H1 locs ht hvm hw hB hz1 hk1 hS => ?_)
  obtain ⟨hP1, hK1, hD1⟩ := hB
  rw [ht] at hP1
  rw [hw]
  obtain ⟨hP2, hD2⟩ := va_join (wr := wr) (w1 := (wdM cJ cI oM oM1 oM2 oM3 oM4 oM5 oM6 oM7 oM8 oM9 oM10 oM11 mw mt mrim mjn mhm mpn y_mbm y_mgm mpi mst mam mac mro mbe mhi mmi y_mgr y_mtr y_mle)) hP hD isC isR hC hRr hn hdis hk1 hFc hP1 hD1
  exact kk H1 locs hP2 hD2 hS
-- X8_alone
def mX8_alone_L48 (n : Nat) (mgm : Int32) (mgr : Nat → Int64) (v2 : Int32) : Nat → (Int32) → (Int32) → Option ((Int32))
  | 0, _, _ => none
  | k + 1, v3, v4 => (if mgm ≤ v4 then some (v3) else gd (ib v4 800) (jl (if (mX8_has (mgr v4.toNatClampNeg) v2) = 0 then (0 : Int32) else (1 : Int32)) (fun j18 => mX8_alone_L48 n mgm mgr v2 k (v3 + j18) (v4 + (1 : Int32)))))
def mX8_alone (n : Nat) (mbm : Int32) (mgm : Int32) (mgr : Nat → Int64) (mw : Int32) (mt : Int32) (mpi : Nat → Int64) (a1 : Int32) (a2 : Int32) : Option (Int32 × (Int32) × (Int32) × (Nat → Int64)) :=
  (if (mX8_isPicture a1) = 0 then (some ((-1 : Int32), mbm, mgm, mgr)) else (if (mX8_isCell mw mt a2) = 0 then (some ((-1 : Int32), mbm, mgm, mgr)) else gd (ib a1 5) ((if (mX8_has (mpi a1.toNatClampNeg) a2) = 0 then (some ((-3 : Int32), mbm, mgm, mgr)) else gd (ib a1 5) (jb3 (mX8_layBoxes n mw mt mgr (mpi a1.toNatClampNeg)) (fun (y11 : Int32) (y12 : Int32) (y13 : Nat → Int64) => jb (mX8_alone_L48 n y12 y13 a2 n (0 : Int32) (0 : Int32)) (fun (y22 : Int32) => (if y22 = (1 : Int32) then (some ((1 : Int32), y11, y12, y13)) else (some ((0 : Int32), y11, y12, y13))))))))))
theorem dX8_alone_0 : decode cX8_alone 0 = .ok (.iload_n 1, 1) := by decide +kernel
theorem dX8_alone_1 : decode cX8_alone 1 = .ok (.invokestatic 71, 3) := by decide +kernel
theorem dX8_alone_4 : decode cX8_alone 4 = .ok (.ifCond .eq 11, 3) := by decide +kernel
theorem dX8_alone_7 : decode cX8_alone 7 = .ok (.aload_n 0, 1) := by decide +kernel
theorem dX8_alone_8 : decode cX8_alone 8 = .ok (.iload_n 2, 1) := by decide +kernel
theorem dX8_alone_9 : decode cX8_alone 9 = .ok (.invokevirtual 75, 3) := by decide +kernel
theorem dX8_alone_12 : decode cX8_alone 12 = .ok (.ifCond .ne 5, 3) := by decide +kernel
theorem dX8_alone_15 : decode cX8_alone 15 = .ok (.iconst (-1), 1) := by decide +kernel
theorem dX8_alone_16 : decode cX8_alone 16 = .ok (.ireturn, 1) := by decide +kernel
theorem dX8_alone_17 : decode cX8_alone 17 = .ok (.aload_n 0, 1) := by decide +kernel
theorem dX8_alone_18 : decode cX8_alone 18 = .ok (.getfield 16, 3) := by decide +kernel
theorem dX8_alone_21 : decode cX8_alone 21 = .ok (.iload_n 1, 1) := by decide +kernel
theorem dX8_alone_22 : decode cX8_alone 22 = .ok (.laload, 1) := by decide +kernel
theorem dX8_alone_23 : decode cX8_alone 23 = .ok (.iload_n 2, 1) := by decide +kernel
theorem dX8_alone_24 : decode cX8_alone 24 = .ok (.invokestatic 78, 3) := by decide +kernel
theorem dX8_alone_27 : decode cX8_alone 27 = .ok (.ifCond .ne 6, 3) := by decide +kernel
theorem dX8_alone_30 : decode cX8_alone 30 = .ok (.bipush (-3), 2) := by decide +kernel
theorem dX8_alone_32 : decode cX8_alone 32 = .ok (.ireturn, 1) := by decide +kernel
theorem dX8_alone_33 : decode cX8_alone 33 = .ok (.aload_n 0, 1) := by decide +kernel
theorem dX8_alone_34 : decode cX8_alone 34 = .ok (.aload_n 0, 1) := by decide +kernel
theorem dX8_alone_35 : decode cX8_alone 35 = .ok (.getfield 16, 3) := by decide +kernel
theorem dX8_alone_38 : decode cX8_alone 38 = .ok (.iload_n 1, 1) := by decide +kernel
theorem dX8_alone_39 : decode cX8_alone 39 = .ok (.laload, 1) := by decide +kernel
theorem dX8_alone_40 : decode cX8_alone 40 = .ok (.invokevirtual 178, 3) := by decide +kernel
theorem dX8_alone_43 : decode cX8_alone 43 = .ok (.iconst 0, 1) := by decide +kernel
theorem dX8_alone_44 : decode cX8_alone 44 = .ok (.istore_n 3, 1) := by decide +kernel
theorem dX8_alone_45 : decode cX8_alone 45 = .ok (.iconst 0, 1) := by decide +kernel
theorem dX8_alone_46 : decode cX8_alone 46 = .ok (.istore 4, 2) := by decide +kernel
theorem dX8_alone_48 : decode cX8_alone 48 = .ok (.iload 4, 2) := by decide +kernel
theorem dX8_alone_50 : decode cX8_alone 50 = .ok (.aload_n 0, 1) := by decide +kernel
theorem dX8_alone_51 : decode cX8_alone 51 = .ok (.getfield 172, 3) := by decide +kernel
theorem dX8_alone_54 : decode cX8_alone 54 = .ok (.if_icmp .ge 31, 3) := by decide +kernel
theorem dX8_alone_57 : decode cX8_alone 57 = .ok (.iload_n 3, 1) := by decide +kernel
theorem dX8_alone_58 : decode cX8_alone 58 = .ok (.aload_n 0, 1) := by decide +kernel
theorem dX8_alone_59 : decode cX8_alone 59 = .ok (.getfield 48, 3) := by decide +kernel
theorem dX8_alone_62 : decode cX8_alone 62 = .ok (.iload 4, 2) := by decide +kernel
theorem dX8_alone_64 : decode cX8_alone 64 = .ok (.laload, 1) := by decide +kernel
theorem dX8_alone_65 : decode cX8_alone 65 = .ok (.iload_n 2, 1) := by decide +kernel
theorem dX8_alone_66 : decode cX8_alone 66 = .ok (.invokestatic 78, 3) := by decide +kernel
theorem dX8_alone_69 : decode cX8_alone 69 = .ok (.ifCond .eq 7, 3) := by decide +kernel
theorem dX8_alone_72 : decode cX8_alone 72 = .ok (.iconst 1, 1) := by decide +kernel
theorem dX8_alone_73 : decode cX8_alone 73 = .ok (.goto 4, 3) := by decide +kernel
theorem dX8_alone_76 : decode cX8_alone 76 = .ok (.iconst 0, 1) := by decide +kernel
theorem dX8_alone_77 : decode cX8_alone 77 = .ok (.iadd, 1) := by decide +kernel
theorem dX8_alone_78 : decode cX8_alone 78 = .ok (.istore_n 3, 1) := by decide +kernel
theorem dX8_alone_79 : decode cX8_alone 79 = .ok (.iinc 4 1, 3) := by decide +kernel
theorem dX8_alone_82 : decode cX8_alone 82 = .ok (.goto (-34), 3) := by decide +kernel
theorem dX8_alone_85 : decode cX8_alone 85 = .ok (.iload_n 3, 1) := by decide +kernel
theorem dX8_alone_86 : decode cX8_alone 86 = .ok (.iconst 1, 1) := by decide +kernel
theorem dX8_alone_87 : decode cX8_alone 87 = .ok (.if_icmp .ne 7, 3) := by decide +kernel
theorem dX8_alone_90 : decode cX8_alone 90 = .ok (.iconst 1, 1) := by decide +kernel
theorem dX8_alone_91 : decode cX8_alone 91 = .ok (.goto 4, 3) := by decide +kernel
theorem dX8_alone_94 : decode cX8_alone 94 = .ok (.iconst 0, 1) := by decide +kernel
theorem dX8_alone_95 : decode cX8_alone 95 = .ok (.ireturn, 1) := by decide +kernel
set_option maxHeartbeats 4000000 in
set_option maxRecDepth 100000 in
theorem wX8_alone_L48 {n : Nat} {v2 : Int32} (hx : p.tables.exec = Jvm.exec) (hb : c.code = cX8_alone) (hml : c.maxLocals = 5) (hown : s.vm.findClass RX8 = some m.cls) (hts : ∀ w ∈ tw, w.before args s = true) (hK : va_K D vwCl [(cI, .int), (cJ, .long)] s) (hP : va_P D vwCl (wdM cJ cI oM oM1 oM2 oM3 oM4 oM5 oM6 oM7 oM8 oM9 oM10 oM11 mw mt mrim mjn mhm mpn mbm mgm mpi mst mam mac mro mbe mhi mmi mgr mtr mle) H) (hA : ∀ q, s.heap.size ≤ q → A q) (hS : va_S A s.heap H locs) (hR : 5 ≤ R.frames ∧ 134 ≤ R.locals ∧ cells ≤ R.cells ∧ slots ≤ R.slots) : ∀ (k : Nat) (v3 : Int32) (v4 : Int32) (x3 : Int32), mX8_alone_L48 n mgm mgr v2 k v3 v4 = some (x3) → ∀ ls : Array Slot, lv_has ls 5 [(0, .ref oM), (2, .int v2), (3, .int v3), (4, .int v4)] → (∀ ls : Array Slot, lv_has ls 5 [(3, .int x3)] → W p l e R s m args below meth c H locs cells slots Q (F0 m 85 ls [])) → W p l e R s m args below meth c H locs cells slots Q (F0 m 48 ls []) := by
  intro k
  induction k with
  | zero => intro v3 v4 x3 hm; rw [mX8_alone_L48] at hm; cases hm
  | succ k ih =>
    intro v3 v4 x3 hm ls hl K0
    rw [mX8_alone_L48] at hm
    refine lv_iload hx hb dX8_alone_48 (lv_at hl 3 rfl) ?_
    refine lv_aload_n hx hb dX8_alone_50 rfl (lv_at hl 0 rfl) ?_
    refine va_get (D := D) (ci := 8) (v := .int mgm) (C := RX8) (T := TX8) (N := 19) hx hb hts tnX8 hown hK hP 0 rfl rfl 15 (by decide) (hts _ qw_528) (fun _ h9 => h9) rfl dX8_alone_51 ?_
    refine lv_icmp_ge (tgt := 85) hx hb dX8_alone_54 (by decide) (fun c15 => ?_) (fun c15 => ?_)
    · rw [if_pos c15] at hm
      have hm := Option.some.inj hm
      have e9 : x3 = v3 := (congrArg (fun q => q) hm).symm
      rw [e9] at K0
      exact K0 ls (lv_sub hl [2] rfl)
    · rw [if_neg c15] at hm
      refine lv_iload_n hx hb dX8_alone_57 rfl (lv_at hl 2 rfl) ?_
      refine lv_aload_n hx hb dX8_alone_58 rfl (lv_at hl 0 rfl) ?_
      refine va_get (D := D) (ci := 8) (v := .ref oM9) (C := RX8) (T := TX8) (N := 19) hx hb hts tnX8 hown hK hP 0 rfl rfl 16 (by decide) (hts _ qw_530) (fun _ h9 => h9) rfl dX8_alone_59 ?_
      refine lv_iload hx hb dX8_alone_62 (lv_at hl 3 rfl) ?_
      obtain ⟨g16, hm⟩ := gd_out hm
      refine va_lald hx hb hK hP 9 1 rfl rfl g16 dX8_alone_64 ?_
      refine lv_iload_n hx hb dX8_alone_65 rfl (lv_at hl 1 rfl) ?_
      refine kX8_has ⟨hx, hb, hml, hown, hts⟩ qw_81 hl.1 ⟨Nat.le_trans (by decide) hR.1, Nat.le_trans (by decide) hR.2.1, hR.2.2⟩ (Nat.le_of_ble_eq_true rfl) dX8_alone_66 ?_
      obtain ⟨j18, hi19, hm⟩ := jl_out hm
      have key20 : ∀ (ls : Array Slot), lv_has ls 5 [(0, .ref oM), (2, .int v2), (4, .int v4)] → W p l e R s m args below meth c H locs cells slots Q (F0 m 77 ls [.int j18, .int v3]) := by
        intro ls hl
        refine lv_iadd hx hb dX8_alone_77 ?_
        refine lv_istore_n (lv' := [(3, .int (v3 + j18)), (0, .ref oM), (2, .int v2), (4, .int v4)]) hx hb dX8_alone_78 rfl hl (by decide) rfl (fun ls hl => ?_)
        refine lv_iinc (v := (v4 + (1 : Int32))) (lv' := [(4, .int (v4 + (1 : Int32))), (3, .int (v3 + j18)), (0, .ref oM), (2, .int v2)]) hx hb dX8_alone_79 hl (k := 3) rfl (by rfl) (by decide) rfl (fun ls hl => ?_)
        refine lv_goto (tgt := 48) hx hb dX8_alone_82 (by decide) ?_
        exact ih _ _ _ hm ls (lv_sub hl [2, 3, 1, 0] rfl) K0
      refine lv_if_eq (tgt := 76) hx hb dX8_alone_69 (by decide) (fun c21 => ?_) (fun c21 => ?_)
      · rw [if_pos c21] at hi19
        refine lv_iconst (v := (0 : Int32)) hx hb dX8_alone_76 (by decide) ?_
        rw [hi19] at key20
        exact key20 ls (lv_sub hl [0, 1, 3] rfl)
      · rw [if_neg c21] at hi19
        refine lv_iconst (v := (1 : Int32)) hx hb dX8_alone_72 (by decide) ?_
        refine lv_goto (tgt := 77) hx hb dX8_alone_73 (by decide) ?_
        rw [hi19] at key20
        exact key20 ls (lv_sub hl [0, 1, 3] rfl)
set_option maxHeartbeats 4000000 in
set_option maxRecDepth 100000 in
theorem bX8_alone {n : Nat} {a1 : Int32} {a2 : Int32} {r : Int32} {y_mbm : (Int32)} {y_mgm : (Int32)} {y_mgr : (Nat → Int64)} (hx : p.tables.exec = Jvm.exec) (hb : c.code = cX8_alone) (hml : c.maxLocals = 5) (hown : s.vm.findClass RX8 = some m.cls) (hts : ∀ w ∈ tw, w.before args s = true) (hK : va_K D vwCl [(cI, .int), (cJ, .long)] s) (hA : ∀ q, s.heap.size ≤ q → A q) (hR : 5 ≤ R.frames ∧ 134 ≤ R.locals ∧ cells ≤ R.cells ∧ slots ≤ R.slots) (hm : mX8_alone n mbm mgm mgr mw mt mpi a1 a2 = some (r, y_mbm, y_mgm, y_mgr)) (ls : Array Slot) (hl : lv_has ls 5 [(0, .ref oM), (1, .int a1), (2, .int a2)]) (hP : va_P D vwCl (wdM cJ cI oM oM1 oM2 oM3 oM4 oM5 oM6 oM7 oM8 oM9 oM10 oM11 mw mt mrim mjn mhm mpn mbm mgm mpi mst mam mac mro mbe mhi mmi mgr mtr mle) H) (hD : va_D A (wdM cJ cI oM oM1 oM2 oM3 oM4 oM5 oM6 oM7 oM8 oM9 oM10 oM11 mw mt mrim mjn mhm mpn mbm mgm mpi mst mam mac mro mbe mhi mmi mgr mtr mle)) (hS : va_S A s.heap H locs) (K : ∀ (pc : Nat) (ls : Array Slot) (H : Heap) (locs : List Loc), decode cX8_alone pc = .ok (.ireturn, 1) → va_P D vwCl (wdM cJ cI oM oM1 oM2 oM3 oM4 oM5 oM6 oM7 oM8 oM9 oM10 oM11 mw mt mrim mjn mhm mpn y_mbm y_mgm mpi mst mam mac mro mbe mhi mmi y_mgr mtr mle) H → va_D A (wdM cJ cI oM oM1 oM2 oM3 oM4 oM5 oM6 oM7 oM8 oM9 oM10 oM11 mw mt mrim mjn mhm mpn y_mbm y_mgm mpi mst mam mac mro mbe mhi mmi y_mgr mtr mle) → va_S A s.heap H locs → W p l e R s m args below meth c H locs cells slots Q (F0 m pc ls [.int r])) : W p l e R s m args below meth c H locs cells slots Q (F0 m 0 ls []) := by
  unfold mX8_alone at hm
  refine lv_iload_n hx hb dX8_alone_0 rfl (lv_at hl 1 rfl) ?_
  refine kX8_isPicture ⟨hx, hb, hml, hown, hts⟩ qw_101 hl.1 ⟨Nat.le_trans (by decide) hR.1, Nat.le_trans (by decide) hR.2.1, hR.2.2⟩ (Nat.le_of_ble_eq_true rfl) dX8_alone_1 ?_
  refine lv_if_eq (tgt := 15) hx hb dX8_alone_4 (by decide) (fun c2 => ?_) (fun c2 => ?_)
  · rw [if_pos c2] at hm
    refine lv_iconst (v := (-1 : Int32)) hx hb dX8_alone_15 (by decide) ?_
    have hm := Option.some.inj hm
    have e9 : r = (-1 : Int32) := (congrArg (fun q => q.1) hm).symm
    rw [e9] at K
    have e9 : y_mbm = mbm := (congrArg (fun q => q.2.1) hm).symm
    rw [e9] at K
    have e9 : y_mgm = mgm := (congrArg (fun q => q.2.2.1) hm).symm
    rw [e9] at K
    have e9 : y_mgr = mgr := (congrArg (fun q => q.2.2.2) hm).symm
    rw [e9] at K
    exact K 16 ls _ _ dX8_alone_16 hP hD hS
  · rw [if_neg c2] at hm
    refine lv_aload_n hx hb dX8_alone_7 rfl (lv_at hl 0 rfl) ?_
    refine lv_iload_n hx hb dX8_alone_8 rfl (lv_at hl 2 rfl) ?_
    refine kX8_isCell ⟨hx, hb, hml, hown, hts⟩ qw_102 hP hK hl.1 ⟨Nat.le_trans (by decide) hR.1, Nat.le_trans (by decide) hR.2.1, hR.2.2⟩ (Nat.le_of_ble_eq_true rfl) dX8_alone_9 ?_
    refine lv_if_ne (tgt := 17) hx hb dX8_alone_12 (by decide) (fun c4 => ?_) (fun c4 => ?_)
    · rw [if_neg c4] at hm
      refine lv_aload_n hx hb dX8_alone_17 rfl (lv_at hl 0 rfl) ?_
      refine va_get (D := D) (ci := 8) (v := .ref oM1) (C := RX8) (T := TX8) (N := 19) hx hb hts tnX8 hown hK hP 0 rfl rfl 2 (by decide) (hts _ qw_103) (fun _ h9 => h9) rfl dX8_alone_18 ?_
      refine lv_iload_n hx hb dX8_alone_21 rfl (lv_at hl 1 rfl) ?_
      obtain ⟨g5, hm⟩ := gd_out hm
      refine va_lald hx hb hK hP 1 1 rfl rfl g5 dX8_alone_22 ?_
      refine lv_iload_n hx hb dX8_alone_23 rfl (lv_at hl 2 rfl) ?_
      refine kX8_has ⟨hx, hb, hml, hown, hts⟩ qw_81 hl.1 ⟨Nat.le_trans (by decide) hR.1, Nat.le_trans (by decide) hR.2.1, hR.2.2⟩ (Nat.le_of_ble_eq_true rfl) dX8_alone_24 ?_
      refine lv_if_ne (tgt := 33) hx hb dX8_alone_27 (by decide) (fun c7 => ?_) (fun c7 => ?_)
      · rw [if_neg c7] at hm
        refine lv_aload_n hx hb dX8_alone_33 rfl (lv_at hl 0 rfl) ?_
        refine lv_aload_n hx hb dX8_alone_34 rfl (lv_at hl 0 rfl) ?_
        refine va_get (D := D) (ci := 8) (v := .ref oM1) (C := RX8) (T := TX8) (N := 19) hx hb hts tnX8 hown hK hP 0 rfl rfl 2 (by decide) (hts _ qw_103) (fun _ h9 => h9) rfl dX8_alone_35 ?_
        refine lv_iload_n hx hb dX8_alone_38 rfl (lv_at hl 1 rfl) ?_
        obtain ⟨g8, hm⟩ := gd_out hm
        refine va_lald hx hb hK hP 1 1 rfl rfl g8 dX8_alone_39 ?_
        obtain ⟨y11, y12, y13, h10, hm⟩ := jb_out3 hm
        refine kX8_layBoxes (ws := (wdM cJ cI oM oM1 oM2 oM3 oM4 oM5 oM6 oM7 oM8 oM9 oM10 oM11 mw mt mrim mjn mhm mpn mbm mgm mpi mst mam mac mro mbe mhi mmi mgr mtr mle)) (wr := []) ⟨hx, hb, hml, hown, hts⟩ qw_534 [0, 1, 2, 3, 4, 5, 6, 7, 8, 9, 10, 11] [] rfl rfl (by decide) (by decide) (by decide) hK h10 hl.1 ⟨Nat.le_trans (by decide) hR.1, Nat.le_trans (by decide) hR.2.1, hR.2.2⟩ (Nat.le_of_ble_eq_true rfl) dX8_alone_40 hP hD hS hA (fun H locs hP hD hS => ?_)
        have hP : va_P D vwCl (wdM cJ cI oM oM1 oM2 oM3 oM4 oM5 oM6 oM7 oM8 oM9 oM10 oM11 mw mt mrim mjn mhm mpn y11 y12 mpi mst mam mac mro mbe mhi mmi y13 mtr mle) H := hP.sub [0, 1, 2, 3, 4, 5, 6, 7, 8, 9, 10, 11] rfl
        have hD : va_D A (wdM cJ cI oM oM1 oM2 oM3 oM4 oM5 oM6 oM7 oM8 oM9 oM10 oM11 mw mt mrim mjn mhm mpn y11 y12 mpi mst mam mac mro mbe mhi mmi y13 mtr mle) := hD.sub [0, 1, 2, 3, 4, 5, 6, 7, 8, 9, 10, 11] (by decide) rfl
        refine lv_iconst (v := (0 : Int32)) hx hb dX8_alone_43 (by decide) ?_
        refine lv_istore_n (lv' := [(3, .int (0 : Int32)), (0, .ref oM), (1, .int a1), (2, .int a2)]) hx hb dX8_alone_44 rfl hl (by decide) rfl (fun ls hl => ?_)
        refine lv_iconst (v := (0 : Int32)) hx hb dX8_alone_45 (by decide) ?_
        refine lv_istore (lv' := [(4, .int (0 : Int32)), (3, .int (0 : Int32)), (0, .ref oM), (1, .int a1), (2, .int a2)]) hx hb dX8_alone_46 hl (by decide) rfl (fun ls hl => ?_)
        obtain ⟨y22, h23, hm⟩ := jb_out hm
        refine wX8_alone_L48 hx hb hml hown hts hK hP hA hS hR n _ _ _  h23 ls (lv_sub hl [2, 4, 1, 0] rfl) (fun ls hl => ?_)
        refine lv_iload_n hx hb dX8_alone_85 rfl (lv_at hl 0 rfl) ?_
        refine lv_iconst (v := (1 : Int32)) hx hb dX8_alone_86 (by decide) ?_
        refine lv_icmp_ne (tgt := 94) hx hb dX8_alone_87 (by decide) (fun c24 => ?_) (fun c24 => ?_)
        · rw [if_neg c24] at hm
          refine lv_iconst (v := (0 : Int32)) hx hb dX8_alone_94 (by decide) ?_
          have hm := Option.some.inj hm
          have e9 : r = (0 : Int32) := (congrArg (fun q => q.1) hm).symm
          rw [e9] at K
          have e9 : y_mbm = y11 := (congrArg (fun q => q.2.1) hm).symm
          rw [e9] at K
          have e9 : y_mgm = y12 := (congrArg (fun q => q.2.2.1) hm).symm
          rw [e9] at K
          have e9 : y_mgr = y13 := (congrArg (fun q => q.2.2.2) hm).symm
          rw [e9] at K
          exact K 95 ls _ _ dX8_alone_95 hP hD hS
        · rw [if_pos c24] at hm
          refine lv_iconst (v := (1 : Int32)) hx hb dX8_alone_90 (by decide) ?_
          refine lv_goto (tgt := 95) hx hb dX8_alone_91 (by decide) ?_
          have hm := Option.some.inj hm
          have e9 : r = (1 : Int32) := (congrArg (fun q => q.1) hm).symm
          rw [e9] at K
          have e9 : y_mbm = y11 := (congrArg (fun q => q.2.1) hm).symm
          rw [e9] at K
          have e9 : y_mgm = y12 := (congrArg (fun q => q.2.2.1) hm).symm
          rw [e9] at K
          have e9 : y_mgr = y13 := (congrArg (fun q => q.2.2.2) hm).symm
          rw [e9] at K
          exact K 95 ls _ _ dX8_alone_95 hP hD hS
      · rw [if_pos c7] at hm
        refine lv_bipush (v := (-3 : Int32)) hx hb dX8_alone_30 (by decide) ?_
        have hm := Option.some.inj hm
        have e9 : r = (-3 : Int32) := (congrArg (fun q => q.1) hm).symm
        rw [e9] at K
        have e9 : y_mbm = mbm := (congrArg (fun q => q.2.1) hm).symm
        rw [e9] at K
        have e9 : y_mgm = mgm := (congrArg (fun q => q.2.2.1) hm).symm
        rw [e9] at K
        have e9 : y_mgr = mgr := (congrArg (fun q => q.2.2.2) hm).symm
        rw [e9] at K
        exact K 32 ls _ _ dX8_alone_32 hP hD hS
    · rw [if_pos c4] at hm
      refine lv_iconst (v := (-1 : Int32)) hx hb dX8_alone_15 (by decide) ?_
      have hm := Option.some.inj hm
      have e9 : r = (-1 : Int32) := (congrArg (fun q => q.1) hm).symm
      rw [e9] at K
      have e9 : y_mbm = mbm := (congrArg (fun q => q.2.1) hm).symm
      rw [e9] at K
      have e9 : y_mgm = mgm := (congrArg (fun q => q.2.2.1) hm).symm
      rw [e9] at K
      have e9 : y_mgr = mgr := (congrArg (fun q => q.2.2.2) hm).symm
      rw [e9] at K
      exact K 16 ls _ _ dX8_alone_16 hP hD hS
set_option maxHeartbeats 4000000 in
set_option maxRecDepth 100000 in
theorem tX8_alone (l : Launch) {D : va_G} (sz : Nat) {n : Nat} {a1 : Int32} {a2 : Int32} {r : Int32} {y_mbm : (Int32)} {y_mgm : (Int32)} {y_mgr : (Nat → Int64)} (hm : mX8_alone n mbm mgm mgr mw mt mpi a1 a2 = some (r, y_mbm, y_mgm, y_mgr)) : Met l yX8_alone (.code yX8_alone cX8_alone 5 (some .int) :: tw) ({ frames := 5, cells := 0, slots := 0, locals := 134 } : Room) (wrP D [.ref oM, .int a1, .int a2] (wdM cJ cI oM oM1 oM2 oM3 oM4 oM5 oM6 oM7 oM8 oM9 oM10 oM11 mw mt mrim mjn mhm mpn mbm mgm mpi mst mam mac mro mbe mhi mmi mgr mtr mle) [(cI, .int), (cJ, .long)] sz) (va_Qi (fun q (_ : Unit) => q = r) (fun (_ : Unit) (t : State) => va_P D vwCl (wdM cJ cI oM oM1 oM2 oM3 oM4 oM5 oM6 oM7 oM8 oM9 oM10 oM11 mw mt mrim mjn mhm mpn y_mbm y_mgm mpi mst mam mac mro mbe mhi mmi y_mgr mtr mle) t.heap ∧ va_K D vwCl [(cI, .int), (cJ, .long)] t ∧ va_D (va_A (wdM cJ cI oM oM1 oM2 oM3 oM4 oM5 oM6 oM7 oM8 oM9 oM10 oM11 mw mt mrim mjn mhm mpn mbm mgm mpi mst mam mac mro mbe mhi mmi mgr mtr mle) sz) (wdM cJ cI oM oM1 oM2 oM3 oM4 oM5 oM6 oM7 oM8 oM9 oM10 oM11 mw mt mrim mjn mhm mpn y_mbm y_mgm mpi mst mam mac mro mbe mhi mmi y_mgr mtr mle)) (va_A (wdM cJ cI oM oM1 oM2 oM3 oM4 oM5 oM6 oM7 oM8 oM9 oM10 oM11 mw mt mrim mjn mhm mpn mbm mgm mpi mst mam mac mro mbe mhi mmi mgr mtr mle) sz)) 0 0 (va_A (wdM cJ cI oM oM1 oM2 oM3 oM4 oM5 oM6 oM7 oM8 oM9 oM10 oM11 mw mt mrim mjn mhm mpn mbm mgm mpi mst mam mac mro mbe mhi mmi mgr mtr mle) sz) := by
  refine Met.ofW (cc := cX8_alone) (maxL := 5) (ret := (some .int)) (by decide) rfl ?_
  intro p e s m args below meth c s₁ B hml hv
  obtain ⟨rfl, hsz, hP, hK, hD0⟩ := hv
  have hx := B.exec
  have hb := B.bytes
  have hr := B.returns
  have hts : ∀ w ∈ tw, w.before _ s = true := fun w h => atoms_spec (ws := .code yX8_alone cX8_alone 5 (some .int) :: tw) B.pre w (List.mem_cons_of_mem _ h)
  have hown : s.vm.findClass RX8 = some m.cls := findClass_of_methodNamed B.named
  have hlocks := B.notSynchronized
  subst hsz
  have hD := hD0.self (sz := s.heap.size)
  have hl := lv_entry ([.ref oM, .int a1, .int a2]) (n := 5) (Nat.le_of_ble_eq_true rfl)
  rw [lg_entry_eq]
  generalize (lg_sl ([.ref oM, .int a1, .int a2]) ++ List.replicate (5 - (lg_sl ([.ref oM, .int a1, .int a2])).length) Slot.unset).toArray = ls at hl ⊢
  refine bX8_alone hx hb hml hown hts hK (fun q h => Or.inr h) ⟨Nat.le_of_ble_eq_true rfl, Nat.le_of_ble_eq_true rfl, Nat.zero_le _, Nat.zero_le _⟩ hm ls hl hP hD va_S.rf (fun pc ls H locs hd hP hD hS => ?_)
  exact W.iret hx hb hr (fun t ht hW => ⟨⟨r, (), rfl, rfl, by rw [ht]; exact hP, va_K.moved hW.alike hK, hD⟩, hS.F ht⟩) hS.2.2 hd
set_option maxHeartbeats 4000000 in
set_option maxRecDepth 100000 in
theorem kX8_alone {own : String} {cc : ByteArray} {nL idx pc : Nat} {ls : Array Slot} {rest : List Value} {ws wr : va_W} {n : Nat} {a1 : Int32} {a2 : Int32} {r : Int32} {y_mbm : (Int32)} {y_mgm : (Int32)} {y_mgr : (Nat → Int64)} (fx : CallFix p m c cc nL s args tw own) (hq : Cond.methodLink own idx yX8_alone ∈ tw) (isC isR : List Nat) (hC : isC.map (fun i => ws[i]?) = ((wdM cJ cI oM oM1 oM2 oM3 oM4 oM5 oM6 oM7 oM8 oM9 oM10 oM11 mw mt mrim mjn mhm mpn mbm mgm mpi mst mam mac mro mbe mhi mmi mgr mtr mle) : va_W).map some) (hRr : isR.map (fun i => ws[i]?) = wr.map some) (hnC : va_nd isC = true) (hn : va_nd isR = true) (hdis : ∀ i ∈ isR, i ∉ isC) (hK : va_K D vwCl [(cI, .int), (cJ, .long)] s) (hm : mX8_alone n mbm mgm mgr mw mt mpi a1 a2 = some (r, y_mbm, y_mgm, y_mgr)) (hsz : ls.size = nL) (hR : 6 ≤ R.frames ∧ 158 ≤ R.locals ∧ cells ≤ R.cells ∧ slots ≤ R.slots) (hst : (rest.map fun v => v.category).sum ≤ 8) (hd : decode cc pc = .ok (.invokevirtual idx, 3)) (hP : va_P D vwCl ws H) (hD : va_D A ws) (hS : va_S A s.heap H locs) (hA : ∀ q, s.heap.size ≤ q → A q) (kk : ∀ (H : Heap) (locs : List Loc), va_P D vwCl (wr ++ (wdM cJ cI oM oM1 oM2 oM3 oM4 oM5 oM6 oM7 oM8 oM9 oM10 oM11 mw mt mrim mjn mhm mpn y_mbm y_mgm mpi mst mam mac mro mbe mhi mmi y_mgr mtr mle)) H → va_D A (wr ++ (wdM cJ cI oM oM1 oM2 oM3 oM4 oM5 oM6 oM7 oM8 oM9 oM10 oM11 mw mt mrim mjn mhm mpn y_mbm y_mgm mpi mst mam mac mro mbe mhi mmi y_mgr mtr mle)) → va_S A s.heap H locs → W p l e R s m args below meth c H locs cells slots Q (F0 m (pc + 3) ls (.int r :: rest))) : W p l e R s m args below meth c H locs cells slots Q (F0 m pc ls (.int a2 :: .int a1 :: .ref oM :: rest)) := by
  have hPc := va_P.subM hP isC hC
  have hDc := hD.sub isC hnC hC
  have hFc := va_free (wc := (wdM cJ cI oM oM1 oM2 oM3 oM4 oM5 oM6 oM7 oM8 oM9 oM10 oM11 mw mt mrim mjn mhm mpn mbm mgm mpi mst mam mac mro mbe mhi mmi mgr mtr mle)) hD hS hA isC hC
  refine va_calli (va_runV (As := [.int a1, .int a2]) (rest := rest) fx (tX8_alone l H.size hm) (cwV 2 fx.2.2.2.2 (tw_V hq qw_551 qw_552 qw_53 qw_553) rfl rfl rfl (by decide +kernel) ⟨hR.1, hR.2.1⟩) ⟨wrP_bl, va_recv hK hPc (ci := 8) (q0 := 0) rfl rfl, wrP_ok hPc hK hDc⟩ rfl rfl hsz rfl (lv_room hst) hd ⟨hR.2.2.1, hR.2.2.2⟩) hS (fun q _ h => hFc q h) hFc (fun r9 u t H1 locs ht hvm hw hB hz1 hk1 hS => ?_)
  obtain ⟨hP1, hK1, hD1⟩ := hB
  rw [ht] at hP1
  rw [hw]
  obtain ⟨hP2, hD2⟩ := va_join (wr := wr) (w1 := (wdM cJ cI oM oM1 oM2 oM3 oM4 oM5 oM6 oM7 oM8 oM9 oM10 oM11 mw mt mrim mjn mhm mpn y_mbm y_mgm mpi mst mam mac mro mbe mhi mmi y_mgr mtr mle)) hP hD isC isR hC hRr hn hdis hk1 hFc hP1 hD1
  exact kk H1 locs hP2 hD2 hS
end
