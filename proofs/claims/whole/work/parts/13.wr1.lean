theorem qw_364 : Cond.instanceMethod yX1_layStep ∈ tw := tw_of (by decide +kernel) rfl
theorem qw_365 : Cond.selects RX1 yX1_layStep yX1_layStep ∈ tw := tw_of (by decide +kernel) rfl
theorem qw_366 : Cond.code yX1_layStep cX1_layStep 10 none ∈ tw := tw_of (by decide +kernel) rfl
theorem qw_367 : Cond.fieldLink RX1 40 "WornShapes$Field" "border" "J" ∈ tw := tw_of (by decide +kernel) rfl
theorem qw_368 : Cond.methodLink RX1 43 yX1_layStep ∈ tw := tw_of (by decide +kernel) rfl
theorem qw_369 : Cond.instanceMethod yX1_lay ∈ tw := tw_of (by decide +kernel) rfl
theorem qw_370 : Cond.selects RX1 yX1_lay yX1_lay ∈ tw := tw_of (by decide +kernel) rfl
theorem qw_371 : Cond.code yX1_lay cX1_lay 6 none ∈ tw := tw_of (by decide +kernel) rfl
theorem qw_372 : Cond.instanceMethod yX4_append ∈ tw := tw_of (by decide +kernel) rfl
theorem qw_373 : Cond.selects RX4 yX4_append yX4_append ∈ tw := tw_of (by decide +kernel) rfl
theorem qw_374 : Cond.code yX4_append cX4_append 2 (some .boolean) ∈ tw := tw_of (by decide +kernel) rfl
theorem qw_375 : Cond.instanceMethod yX2_append ∈ tw := tw_of (by decide +kernel) rfl
theorem qw_376 : Cond.selects RX2 yX2_append yX2_append ∈ tw := tw_of (by decide +kernel) rfl
theorem qw_377 : Cond.code yX2_append cX2_append 3 (some .boolean) ∈ tw := tw_of (by decide +kernel) rfl
theorem qw_378 : Cond.fieldLink RX0 25 "WornShapes$Boxes" "area" "I" ∈ tw := tw_of (by decide +kernel) rfl
theorem qw_379 : Cond.methodLink RX0 51 yJ13_bitCount_95d88 ∈ tw := tw_of (by decide +kernel) rfl
theorem qw_380 : Cond.fieldLink RX0 19 "WornShapes$Boxes" "first" "I" ∈ tw := tw_of (by decide +kernel) rfl
theorem qw_381 : Cond.fieldLink RX0 22 "WornShapes$Boxes" "last" "I" ∈ tw := tw_of (by decide +kernel) rfl
theorem qw_382 : Cond.instanceMethod yX0_findGreatest ∈ tw := tw_of (by decide +kernel) rfl
theorem qw_383 : Cond.selects RX0 yX0_findGreatest yX0_findGreatest ∈ tw := tw_of (by decide +kernel) rfl
theorem qw_384 : Cond.code yX0_findGreatest cX0_findGreatest 6 (some .boolean) ∈ tw := tw_of (by decide +kernel) rfl
theorem qw_385 : Cond.instanceMethod yX0_gatherWidest ∈ tw := tw_of (by decide +kernel) rfl
theorem qw_386 : Cond.selects RX0 yX0_gatherWidest yX0_gatherWidest ∈ tw := tw_of (by decide +kernel) rfl
theorem qw_387 : Cond.code yX0_gatherWidest cX0_gatherWidest 7 none ∈ tw := tw_of (by decide +kernel) rfl
section
variable {A : Nat → Prop} {p : Program} {l : Launch} {e : Env} {R : Room} {s : State} {m : MethodId} {args : Array Value} {below : List Frame} {meth : Method} {c : Code} {H : Heap} {locs : List Loc} {cells slots : Nat} {Q : State → Prop} {D : va_G} {oF : Nat} {oFr : Nat} {oFs : Nat} {oFc : Nat} {oFw : Nat} {oS : Nat} {oSs : Nat} {oG : Nat} {oGa : Nat} {oQ : Nat} {oQw : Nat} {oI : Nat} {oR : Nat} {oRh : Nat} {oRm : Nat} {oB : Nat} {oBw : Nat} {oX : Nat} {oXp : Nat} {oXg : Nat} {oG0 : Nat} {oGa0 : Nat} {oG1 : Nat} {oGa1 : Nat} {oG2 : Nat} {oGa2 : Nat} {oM : Nat} {oM1 : Nat} {oM2 : Nat} {oM3 : Nat} {oM4 : Nat} {oM5 : Nat} {oM6 : Nat} {oM7 : Nat} {oM8 : Nat} {oM9 : Nat} {oM10 : Nat} {oM11 : Nat} {tS : Nat} {tA : Nat} {cI : ClassId} {cJ : ClassId} {cG : ClassId} {fw : Int32} {fc : Int32} {fwh : Int64} {fbo : Int64} {fra : Nat → Int32} {fco : Nat → Int32} {fro : Nat → Int32} {fst : Nat → Int64} {srim : Int32} {sst : Nat → Int32} {gsz : Int32} {gac : Nat → Int32} {qln : Int32} {qwy : Nat → Int32} {ijn : Int32} {rsz : Int32} {rhi : Nat → Int32} {rmi : Nat → Int32} {bsz : Int32} {bfi : Int32} {bla : Int32} {bar : Int32} {bwi : Nat → Int64} {xpi : Nat → Int64} {gs0 : Int32} {gs1 : Int32} {gs2 : Int32} {ga0 : Nat → Int32} {ga1 : Nat → Int32} {ga2 : Nat → Int32} {mw : Int32} {mt : Int32} {mrim : Int32} {mjn : Int32} {mhm : Int32} {mpn : Int32} {mbm : Int32} {mgm : Int32} {mpi : Nat → Int64} {mbe : Nat → Int64} {mgr : Nat → Int64} {mle : Nat → Int64} {mst : Nat → Int32} {mam : Nat → Int32} {mac : Nat → Int32} {mro : Nat → Int32} {mhi : Nat → Int32} {mmi : Nat → Int32} {mtr : Nat → Int32}
-- X1_layStep
def mX1_layStep_L34 (n : Nat) (fc : Int32) (fco : Nat → Int32) (v4 : Int32) (fw : Int32) (fro : Nat → Int32) (v3 : Int32) (v2 : Int32) : Nat → (Int64) → (Int32) → Option ((Int64))
  | 0, _, _ => none
  | k + 1, v5, v7 => (if fc ≤ v7 then some (v5) else gd (ib v7 49) (gd (ib v7 49) (jl (if ((fco v7.toNatClampNeg) + v4) < 0 then v5 else (if fw ≤ ((fco v7.toNatClampNeg) + v4) then v5 else (if ((fro v7.toNatClampNeg) + v3) < 0 then v5 else (if v2 ≤ ((fro v7.toNatClampNeg) + v3) then v5 else (v5 ||| (jlshl (1 : Int64) v7)))))) (fun j6 => mX1_layStep_L34 n fc fco v4 fw fro v3 v2 k j6 (v7 + (1 : Int32))))))
def mX1_layStep (n : Nat) (fc : Int32) (fco : Nat → Int32) (fw : Int32) (fro : Nat → Int32) (fra : Nat → Int32) (fst : Nat → Int64) (a1 : Int32) (a2 : Int32) : Option ((Nat → Int32) × (Nat → Int64)) :=
  gd (ib a1 9) (jb (mX1_layStep_L34 n fc fco ((jrem a1 (3 : Int32)) - (1 : Int32)) fw fro ((a1 / (3 : Int32)) - (1 : Int32)) a2 n (0 : Int64) (0 : Int32)) (fun (y13 : Int64) => gd (ib a1 9) ((some ((upd fra a1.toNatClampNeg ((((a1 / (3 : Int32)) - (1 : Int32)) * fw) + ((jrem a1 (3 : Int32)) - (1 : Int32)))), (vp_updL fst a1.toNatClampNeg y13))))))
theorem dX1_layStep_0 : decode cX1_layStep 0 = .ok (.iload_n 1, 1) := by decide +kernel
theorem dX1_layStep_1 : decode cX1_layStep 1 = .ok (.iconst 3, 1) := by decide +kernel
theorem dX1_layStep_2 : decode cX1_layStep 2 = .ok (.idiv, 1) := by decide +kernel
theorem dX1_layStep_3 : decode cX1_layStep 3 = .ok (.iconst 1, 1) := by decide +kernel
theorem dX1_layStep_4 : decode cX1_layStep 4 = .ok (.isub, 1) := by decide +kernel
theorem dX1_layStep_5 : decode cX1_layStep 5 = .ok (.istore_n 3, 1) := by decide +kernel
theorem dX1_layStep_6 : decode cX1_layStep 6 = .ok (.iload_n 1, 1) := by decide +kernel
theorem dX1_layStep_7 : decode cX1_layStep 7 = .ok (.iconst 3, 1) := by decide +kernel
theorem dX1_layStep_8 : decode cX1_layStep 8 = .ok (.irem, 1) := by decide +kernel
theorem dX1_layStep_9 : decode cX1_layStep 9 = .ok (.iconst 1, 1) := by decide +kernel
theorem dX1_layStep_10 : decode cX1_layStep 10 = .ok (.isub, 1) := by decide +kernel
theorem dX1_layStep_11 : decode cX1_layStep 11 = .ok (.istore 4, 2) := by decide +kernel
theorem dX1_layStep_13 : decode cX1_layStep 13 = .ok (.aload_n 0, 1) := by decide +kernel
theorem dX1_layStep_14 : decode cX1_layStep 14 = .ok (.getfield 11, 3) := by decide +kernel
theorem dX1_layStep_17 : decode cX1_layStep 17 = .ok (.iload_n 1, 1) := by decide +kernel
theorem dX1_layStep_18 : decode cX1_layStep 18 = .ok (.iload_n 3, 1) := by decide +kernel
theorem dX1_layStep_19 : decode cX1_layStep 19 = .ok (.aload_n 0, 1) := by decide +kernel
theorem dX1_layStep_20 : decode cX1_layStep 20 = .ok (.getfield 29, 3) := by decide +kernel
theorem dX1_layStep_23 : decode cX1_layStep 23 = .ok (.imul, 1) := by decide +kernel
theorem dX1_layStep_24 : decode cX1_layStep 24 = .ok (.iload 4, 2) := by decide +kernel
theorem dX1_layStep_26 : decode cX1_layStep 26 = .ok (.iadd, 1) := by decide +kernel
theorem dX1_layStep_27 : decode cX1_layStep 27 = .ok (.iastore, 1) := by decide +kernel
theorem dX1_layStep_28 : decode cX1_layStep 28 = .ok (.lconst 0, 1) := by decide +kernel
theorem dX1_layStep_29 : decode cX1_layStep 29 = .ok (.lstore 5, 2) := by decide +kernel
theorem dX1_layStep_31 : decode cX1_layStep 31 = .ok (.iconst 0, 1) := by decide +kernel
theorem dX1_layStep_32 : decode cX1_layStep 32 = .ok (.istore 7, 2) := by decide +kernel
theorem dX1_layStep_34 : decode cX1_layStep 34 = .ok (.iload 7, 2) := by decide +kernel
theorem dX1_layStep_36 : decode cX1_layStep 36 = .ok (.aload_n 0, 1) := by decide +kernel
theorem dX1_layStep_37 : decode cX1_layStep 37 = .ok (.getfield 33, 3) := by decide +kernel
theorem dX1_layStep_40 : decode cX1_layStep 40 = .ok (.if_icmp .ge 66, 3) := by decide +kernel
theorem dX1_layStep_43 : decode cX1_layStep 43 = .ok (.aload_n 0, 1) := by decide +kernel
theorem dX1_layStep_44 : decode cX1_layStep 44 = .ok (.getfield 19, 3) := by decide +kernel
theorem dX1_layStep_47 : decode cX1_layStep 47 = .ok (.iload 7, 2) := by decide +kernel
theorem dX1_layStep_49 : decode cX1_layStep 49 = .ok (.iaload, 1) := by decide +kernel
theorem dX1_layStep_50 : decode cX1_layStep 50 = .ok (.iload 4, 2) := by decide +kernel
theorem dX1_layStep_52 : decode cX1_layStep 52 = .ok (.iadd, 1) := by decide +kernel
theorem dX1_layStep_53 : decode cX1_layStep 53 = .ok (.istore 8, 2) := by decide +kernel
theorem dX1_layStep_55 : decode cX1_layStep 55 = .ok (.aload_n 0, 1) := by decide +kernel
theorem dX1_layStep_56 : decode cX1_layStep 56 = .ok (.getfield 22, 3) := by decide +kernel
theorem dX1_layStep_59 : decode cX1_layStep 59 = .ok (.iload 7, 2) := by decide +kernel
theorem dX1_layStep_61 : decode cX1_layStep 61 = .ok (.iaload, 1) := by decide +kernel
theorem dX1_layStep_62 : decode cX1_layStep 62 = .ok (.iload_n 3, 1) := by decide +kernel
theorem dX1_layStep_63 : decode cX1_layStep 63 = .ok (.iadd, 1) := by decide +kernel
theorem dX1_layStep_64 : decode cX1_layStep 64 = .ok (.istore 9, 2) := by decide +kernel
theorem dX1_layStep_66 : decode cX1_layStep 66 = .ok (.iload 8, 2) := by decide +kernel
theorem dX1_layStep_68 : decode cX1_layStep 68 = .ok (.ifCond .lt 32, 3) := by decide +kernel
theorem dX1_layStep_71 : decode cX1_layStep 71 = .ok (.iload 8, 2) := by decide +kernel
theorem dX1_layStep_73 : decode cX1_layStep 73 = .ok (.aload_n 0, 1) := by decide +kernel
theorem dX1_layStep_74 : decode cX1_layStep 74 = .ok (.getfield 29, 3) := by decide +kernel
theorem dX1_layStep_77 : decode cX1_layStep 77 = .ok (.if_icmp .ge 23, 3) := by decide +kernel
theorem dX1_layStep_80 : decode cX1_layStep 80 = .ok (.iload 9, 2) := by decide +kernel
theorem dX1_layStep_82 : decode cX1_layStep 82 = .ok (.ifCond .lt 18, 3) := by decide +kernel
theorem dX1_layStep_85 : decode cX1_layStep 85 = .ok (.iload 9, 2) := by decide +kernel
theorem dX1_layStep_87 : decode cX1_layStep 87 = .ok (.iload_n 2, 1) := by decide +kernel
theorem dX1_layStep_88 : decode cX1_layStep 88 = .ok (.if_icmp .ge 12, 3) := by decide +kernel
theorem dX1_layStep_91 : decode cX1_layStep 91 = .ok (.lload 5, 2) := by decide +kernel
theorem dX1_layStep_93 : decode cX1_layStep 93 = .ok (.lconst 1, 1) := by decide +kernel
theorem dX1_layStep_94 : decode cX1_layStep 94 = .ok (.iload 7, 2) := by decide +kernel
theorem dX1_layStep_96 : decode cX1_layStep 96 = .ok (.lshl, 1) := by decide +kernel
theorem dX1_layStep_97 : decode cX1_layStep 97 = .ok (.lor, 1) := by decide +kernel
theorem dX1_layStep_98 : decode cX1_layStep 98 = .ok (.lstore 5, 2) := by decide +kernel
theorem dX1_layStep_100 : decode cX1_layStep 100 = .ok (.iinc 7 1, 3) := by decide +kernel
theorem dX1_layStep_103 : decode cX1_layStep 103 = .ok (.goto (-69), 3) := by decide +kernel
theorem dX1_layStep_106 : decode cX1_layStep 106 = .ok (.aload_n 0, 1) := by decide +kernel
theorem dX1_layStep_107 : decode cX1_layStep 107 = .ok (.getfield 15, 3) := by decide +kernel
theorem dX1_layStep_110 : decode cX1_layStep 110 = .ok (.iload_n 1, 1) := by decide +kernel
theorem dX1_layStep_111 : decode cX1_layStep 111 = .ok (.lload 5, 2) := by decide +kernel
theorem dX1_layStep_113 : decode cX1_layStep 113 = .ok (.lastore, 1) := by decide +kernel
theorem dX1_layStep_114 : decode cX1_layStep 114 = .ok (.return_, 1) := by decide +kernel
set_option maxHeartbeats 4000000 in
set_option maxRecDepth 100000 in
theorem wX1_layStep_L34 {n : Nat} {v1 : Int32} {v2 : Int32} {v3 : Int32} {v4 : Int32} (hx : p.tables.exec = Jvm.exec) (hb : c.code = cX1_layStep) (hml : c.maxLocals = 10) (hown : s.vm.findClass RX1 = some m.cls) (hts : ∀ w ∈ tw, w.before args s = true) (hK : va_K D vwCl [(cI, .int), (cJ, .long)] s) (hP : va_P D vwCl (wdF cI cJ oF oFr oFs oFc oFw fw fc fwh fbo fra fst fco fro) H) (hA : ∀ q, s.heap.size ≤ q → A q) (hS : va_S A s.heap H locs) (hR : 0 ≤ R.frames ∧ 0 ≤ R.locals ∧ cells ≤ R.cells ∧ slots ≤ R.slots) : ∀ (k : Nat) (v5 : Int64) (v7 : Int32) (x5 : Int64), mX1_layStep_L34 n fc fco v4 fw fro v3 v2 k v5 v7 = some (x5) → ∀ ls : Array Slot, lv_has ls 10 [(0, .ref oF), (1, .int v1), (2, .int v2), (3, .int v3), (4, .int v4), (5, .long v5), (7, .int v7)] → (∀ ls : Array Slot, lv_has ls 10 [(5, .long x5), (0, .ref oF), (1, .int v1)] → W p l e R s m args below meth c H locs cells slots Q (F0 m 106 ls [])) → W p l e R s m args below meth c H locs cells slots Q (F0 m 34 ls []) := by
  intro k
  induction k with
  | zero => intro v5 v7 x5 hm; rw [mX1_layStep_L34] at hm; cases hm
  | succ k ih =>
    intro v5 v7 x5 hm ls hl K0
    rw [mX1_layStep_L34] at hm
    refine lv_iload hx hb dX1_layStep_34 (lv_at hl 6 rfl) ?_
    refine lv_aload_n hx hb dX1_layStep_36 rfl (lv_at hl 0 rfl) ?_
    refine va_get (D := D) (ci := 1) (v := .int fc) (C := RX1) (T := TX1) (N := 8) hx hb hts tnX1 hown hK hP 0 rfl rfl 1 (by decide) (hts _ qw_15) (fun _ h9 => h9) rfl dX1_layStep_37 ?_
    refine lv_icmp_ge (tgt := 106) hx hb dX1_layStep_40 (by decide) (fun c3 => ?_) (fun c3 => ?_)
    · rw [if_pos c3] at hm
      have hm := Option.some.inj hm
      have e9 : x5 = v5 := (congrArg (fun q => q) hm).symm
      rw [e9] at K0
      exact K0 ls (lv_sub hl [5, 0, 1] rfl)
    · rw [if_neg c3] at hm
      refine lv_aload_n hx hb dX1_layStep_43 rfl (lv_at hl 0 rfl) ?_
      refine va_get (D := D) (ci := 1) (v := .ref oFc) (C := RX1) (T := TX1) (N := 8) hx hb hts tnX1 hown hK hP 0 rfl rfl 6 (by decide) (hts _ qw_38) (fun _ h9 => h9) rfl dX1_layStep_44 ?_
      refine lv_iload hx hb dX1_layStep_47 (lv_at hl 6 rfl) ?_
      obtain ⟨g4, hm⟩ := gd_out hm
      refine va_iald hx hb hK hP 3 0 rfl rfl g4 dX1_layStep_49 ?_
      refine lv_iload hx hb dX1_layStep_50 (lv_at hl 4 rfl) ?_
      refine lv_iadd hx hb dX1_layStep_52 ?_
      refine lv_istore (lv' := [(8, .int ((fco v7.toNatClampNeg) + v4)), (0, .ref oF), (1, .int v1), (2, .int v2), (3, .int v3), (4, .int v4), (5, .long v5), (7, .int v7)]) hx hb dX1_layStep_53 hl (by decide) rfl (fun ls hl => ?_)
      refine lv_aload_n hx hb dX1_layStep_55 rfl (lv_at hl 1 rfl) ?_
      refine va_get (D := D) (ci := 1) (v := .ref oFw) (C := RX1) (T := TX1) (N := 8) hx hb hts tnX1 hown hK hP 0 rfl rfl 7 (by decide) (hts _ qw_39) (fun _ h9 => h9) rfl dX1_layStep_56 ?_
      refine lv_iload hx hb dX1_layStep_59 (lv_at hl 7 rfl) ?_
      obtain ⟨g5, hm⟩ := gd_out hm
      refine va_iald hx hb hK hP 4 0 rfl rfl g5 dX1_layStep_61 ?_
      refine lv_iload_n hx hb dX1_layStep_62 rfl (lv_at hl 4 rfl) ?_
      refine lv_iadd hx hb dX1_layStep_63 ?_
      refine lv_istore (lv' := [(9, .int ((fro v7.toNatClampNeg) + v3)), (8, .int ((fco v7.toNatClampNeg) + v4)), (0, .ref oF), (1, .int v1), (2, .int v2), (3, .int v3), (4, .int v4), (5, .long v5), (7, .int v7)]) hx hb dX1_layStep_64 hl (by decide) rfl (fun ls hl => ?_)
      refine lv_iload hx hb dX1_layStep_66 (lv_at hl 1 rfl) ?_
      obtain ⟨j6, hi7, hm⟩ := jl_out hm
      have key8 : ∀ (ls : Array Slot), lv_has ls 10 [(5, .long j6), (0, .ref oF), (1, .int v1), (2, .int v2), (3, .int v3), (4, .int v4), (7, .int v7)] → W p l e R s m args below meth c H locs cells slots Q (F0 m 100 ls []) := by
        intro ls hl
        refine lv_iinc (v := (v7 + (1 : Int32))) (lv' := [(7, .int (v7 + (1 : Int32))), (5, .long j6), (0, .ref oF), (1, .int v1), (2, .int v2), (3, .int v3), (4, .int v4)]) hx hb dX1_layStep_100 hl (k := 6) rfl (by rfl) (by decide) rfl (fun ls hl => ?_)
        refine lv_goto (tgt := 34) hx hb dX1_layStep_103 (by decide) ?_
        exact ih _ _ _ hm ls (lv_sub hl [2, 3, 4, 5, 6, 1, 0] rfl) K0
      refine lv_if_lt (tgt := 100) hx hb dX1_layStep_68 (by decide) (fun c9 => ?_) (fun c9 => ?_)
      · rw [if_pos c9] at hi7
        rw [hi7] at key8
        exact key8 ls (lv_sub hl [7, 2, 3, 4, 5, 6, 8] rfl)
      · rw [if_neg c9] at hi7
        refine lv_iload hx hb dX1_layStep_71 (lv_at hl 1 rfl) ?_
        refine lv_aload_n hx hb dX1_layStep_73 rfl (lv_at hl 2 rfl) ?_
        refine va_get (D := D) (ci := 1) (v := .int fw) (C := RX1) (T := TX1) (N := 8) hx hb hts tnX1 hown hK hP 0 rfl rfl 0 (by decide) (hts _ qw_40) (fun _ h9 => h9) rfl dX1_layStep_74 ?_
        refine lv_icmp_ge (tgt := 100) hx hb dX1_layStep_77 (by decide) (fun c10 => ?_) (fun c10 => ?_)
        · rw [if_pos c10] at hi7
          rw [hi7] at key8
          exact key8 ls (lv_sub hl [7, 2, 3, 4, 5, 6, 8] rfl)
        · rw [if_neg c10] at hi7
          refine lv_iload hx hb dX1_layStep_80 (lv_at hl 0 rfl) ?_
          refine lv_if_lt (tgt := 100) hx hb dX1_layStep_82 (by decide) (fun c11 => ?_) (fun c11 => ?_)
          · rw [if_pos c11] at hi7
            rw [hi7] at key8
            exact key8 ls (lv_sub hl [7, 2, 3, 4, 5, 6, 8] rfl)
          · rw [if_neg c11] at hi7
            refine lv_iload hx hb dX1_layStep_85 (lv_at hl 0 rfl) ?_
            refine lv_iload_n hx hb dX1_layStep_87 rfl (lv_at hl 4 rfl) ?_
            refine lv_icmp_ge (tgt := 100) hx hb dX1_layStep_88 (by decide) (fun c12 => ?_) (fun c12 => ?_)
            · rw [if_pos c12] at hi7
              rw [hi7] at key8
              exact key8 ls (lv_sub hl [7, 2, 3, 4, 5, 6, 8] rfl)
            · rw [if_neg c12] at hi7
              refine lv_lload hx hb dX1_layStep_91 (lv_at hl 7 rfl) ?_
              refine lv_lconst (v := (1 : Int64)) hx hb dX1_layStep_93 (by decide) ?_
              refine lv_iload hx hb dX1_layStep_94 (lv_at hl 8 rfl) ?_
              refine lv_lshl (v := (jlshl (1 : Int64) v7)) hx hb dX1_layStep_96 rfl ?_
              refine lv_lor hx hb dX1_layStep_97 ?_
              refine lv_lstore (lv' := [(5, .long (v5 ||| (jlshl (1 : Int64) v7))), (9, .int ((fro v7.toNatClampNeg) + v3)), (8, .int ((fco v7.toNatClampNeg) + v4)), (0, .ref oF), (1, .int v1), (2, .int v2), (3, .int v3), (4, .int v4), (7, .int v7)]) hx hb dX1_layStep_98 hl (by decide) rfl (fun ls hl => ?_)
              rw [hi7] at key8
              exact key8 ls (lv_sub hl [0, 3, 4, 5, 6, 7, 8] rfl)
set_option maxHeartbeats 4000000 in
set_option maxRecDepth 100000 in
theorem bX1_layStep {n : Nat} {a1 : Int32} {a2 : Int32} {y_fra : (Nat → Int32)} {y_fst : (Nat → Int64)} (hx : p.tables.exec = Jvm.exec) (hb : c.code = cX1_layStep) (hml : c.maxLocals = 10) (hown : s.vm.findClass RX1 = some m.cls) (hts : ∀ w ∈ tw, w.before args s = true) (hK : va_K D vwCl [(cI, .int), (cJ, .long)] s) (hA : ∀ q, s.heap.size ≤ q → A q) (hR : 0 ≤ R.frames ∧ 0 ≤ R.locals ∧ cells ≤ R.cells ∧ slots ≤ R.slots) (hm : mX1_layStep n fc fco fw fro fra fst a1 a2 = some (y_fra, y_fst)) (ls : Array Slot) (hl : lv_has ls 10 [(0, .ref oF), (1, .int a1), (2, .int a2)]) (hP : va_P D vwCl (wdF cI cJ oF oFr oFs oFc oFw fw fc fwh fbo fra fst fco fro) H) (hD : va_D A (wdF cI cJ oF oFr oFs oFc oFw fw fc fwh fbo fra fst fco fro)) (hS : va_S A s.heap H locs) (K : ∀ (pc : Nat) (ls : Array Slot) (H : Heap) (locs : List Loc), decode cX1_layStep pc = .ok (.return_, 1) → va_P D vwCl (wdF cI cJ oF oFr oFs oFc oFw fw fc fwh fbo y_fra y_fst fco fro) H → va_D A (wdF cI cJ oF oFr oFs oFc oFw fw fc fwh fbo y_fra y_fst fco fro) → va_S A s.heap H locs → W p l e R s m args below meth c H locs cells slots Q (F0 m pc ls [])) : W p l e R s m args below meth c H locs cells slots Q (F0 m 0 ls []) := by
  unfold mX1_layStep at hm
  refine lv_iload_n hx hb dX1_layStep_0 rfl (lv_at hl 1 rfl) ?_
  refine lv_iconst (v := (3 : Int32)) hx hb dX1_layStep_1 (by decide) ?_
  refine lv_idiv hx hb dX1_layStep_2 (by decide) ?_
  refine lv_iconst (v := (1 : Int32)) hx hb dX1_layStep_3 (by decide) ?_
  refine lv_isub hx hb dX1_layStep_4 ?_
  refine lv_istore_n (lv' := [(3, .int ((a1 / (3 : Int32)) - (1 : Int32))), (0, .ref oF), (1, .int a1), (2, .int a2)]) hx hb dX1_layStep_5 rfl hl (by decide) rfl (fun ls hl => ?_)
  refine lv_iload_n hx hb dX1_layStep_6 rfl (lv_at hl 2 rfl) ?_
  refine lv_iconst (v := (3 : Int32)) hx hb dX1_layStep_7 (by decide) ?_
  refine lv_irem hx hb dX1_layStep_8 (by decide) ?_
  refine lv_iconst (v := (1 : Int32)) hx hb dX1_layStep_9 (by decide) ?_
  refine lv_isub hx hb dX1_layStep_10 ?_
  refine lv_istore (lv' := [(4, .int ((jrem a1 (3 : Int32)) - (1 : Int32))), (3, .int ((a1 / (3 : Int32)) - (1 : Int32))), (0, .ref oF), (1, .int a1), (2, .int a2)]) hx hb dX1_layStep_11 hl (by decide) rfl (fun ls hl => ?_)
  refine lv_aload_n hx hb dX1_layStep_13 rfl (lv_at hl 2 rfl) ?_
  refine va_get (D := D) (ci := 1) (v := .ref oFr) (C := RX1) (T := TX1) (N := 8) hx hb hts tnX1 hown hK hP 0 rfl rfl 4 (by decide) (hts _ qw_20) (fun _ h9 => h9) rfl dX1_layStep_14 ?_
  refine lv_iload_n hx hb dX1_layStep_17 rfl (lv_at hl 3 rfl) ?_
  refine lv_iload_n hx hb dX1_layStep_18 rfl (lv_at hl 1 rfl) ?_
  refine lv_aload_n hx hb dX1_layStep_19 rfl (lv_at hl 2 rfl) ?_
  refine va_get (D := D) (ci := 1) (v := .int fw) (C := RX1) (T := TX1) (N := 8) hx hb hts tnX1 hown hK hP 0 rfl rfl 0 (by decide) (hts _ qw_40) (fun _ h9 => h9) rfl dX1_layStep_20 ?_
  refine lv_imul hx hb dX1_layStep_23 ?_
  refine lv_iload hx hb dX1_layStep_24 (lv_at hl 0 rfl) ?_
  refine lv_iadd hx hb dX1_layStep_26 ?_
  obtain ⟨g1, hm⟩ := gd_out hm
  refine va_iast hx hb hK hP hD hS 1 0 rfl rfl g1 dX1_layStep_27 (fun H locs hP hD hS => ?_)
  have hP : va_P D vwCl (wdF cI cJ oF oFr oFs oFc oFw fw fc fwh fbo (upd fra a1.toNatClampNeg ((((a1 / (3 : Int32)) - (1 : Int32)) * fw) + ((jrem a1 (3 : Int32)) - (1 : Int32)))) fst fco fro) H := hP
  have hD : va_D A (wdF cI cJ oF oFr oFs oFc oFw fw fc fwh fbo (upd fra a1.toNatClampNeg ((((a1 / (3 : Int32)) - (1 : Int32)) * fw) + ((jrem a1 (3 : Int32)) - (1 : Int32)))) fst fco fro) := hD
  refine lv_lconst (v := (0 : Int64)) hx hb dX1_layStep_28 (by decide) ?_
  refine lv_lstore (lv' := [(5, .long (0 : Int64)), (4, .int ((jrem a1 (3 : Int32)) - (1 : Int32))), (3, .int ((a1 / (3 : Int32)) - (1 : Int32))), (0, .ref oF), (1, .int a1), (2, .int a2)]) hx hb dX1_layStep_29 hl (by decide) rfl (fun ls hl => ?_)
  refine lv_iconst (v := (0 : Int32)) hx hb dX1_layStep_31 (by decide) ?_
  refine lv_istore (lv' := [(7, .int (0 : Int32)), (5, .long (0 : Int64)), (4, .int ((jrem a1 (3 : Int32)) - (1 : Int32))), (3, .int ((a1 / (3 : Int32)) - (1 : Int32))), (0, .ref oF), (1, .int a1), (2, .int a2)]) hx hb dX1_layStep_32 hl (by decide) rfl (fun ls hl => ?_)
  obtain ⟨y13, h14, hm⟩ := jb_out hm
  refine wX1_layStep_L34 hx hb hml hown hts hK hP hA hS hR n _ _ _  h14 ls (lv_sub hl [4, 5, 6, 3, 2, 1, 0] rfl) (fun ls hl => ?_)
  refine lv_aload_n hx hb dX1_layStep_106 rfl (lv_at hl 1 rfl) ?_
  refine va_get (D := D) (ci := 1) (v := .ref oFs) (C := RX1) (T := TX1) (N := 8) hx hb hts tnX1 hown hK hP 0 rfl rfl 5 (by decide) (hts _ qw_21) (fun _ h9 => h9) rfl dX1_layStep_107 ?_
  refine lv_iload_n hx hb dX1_layStep_110 rfl (lv_at hl 2 rfl) ?_
  refine lv_lload hx hb dX1_layStep_111 (lv_at hl 0 rfl) ?_
  obtain ⟨g15, hm⟩ := gd_out hm
  refine va_last hx hb hK hP hD hS 2 1 rfl rfl g15 dX1_layStep_113 (fun H locs hP hD hS => ?_)
  have hP : va_P D vwCl (wdF cI cJ oF oFr oFs oFc oFw fw fc fwh fbo (upd fra a1.toNatClampNeg ((((a1 / (3 : Int32)) - (1 : Int32)) * fw) + ((jrem a1 (3 : Int32)) - (1 : Int32)))) (vp_updL fst a1.toNatClampNeg y13) fco fro) H := hP
  have hD : va_D A (wdF cI cJ oF oFr oFs oFc oFw fw fc fwh fbo (upd fra a1.toNatClampNeg ((((a1 / (3 : Int32)) - (1 : Int32)) * fw) + ((jrem a1 (3 : Int32)) - (1 : Int32)))) (vp_updL fst a1.toNatClampNeg y13) fco fro) := hD
  have hm := Option.some.inj hm
  have e9 : y_fra = (upd fra a1.toNatClampNeg ((((a1 / (3 : Int32)) - (1 : Int32)) * fw) + ((jrem a1 (3 : Int32)) - (1 : Int32)))) := (congrArg (fun q => q.1) hm).symm
  rw [e9] at K
  have e9 : y_fst = (vp_updL fst a1.toNatClampNeg y13) := (congrArg (fun q => q.2) hm).symm
  rw [e9] at K
  exact K 114 ls _ _ dX1_layStep_114 hP hD hS
set_option maxHeartbeats 4000000 in
set_option maxRecDepth 100000 in
theorem tX1_layStep (l : Launch) {D : va_G} (sz : Nat) {n : Nat} {a1 : Int32} {a2 : Int32} {y_fra : (Nat → Int32)} {y_fst : (Nat → Int64)} (hm : mX1_layStep n fc fco fw fro fra fst a1 a2 = some (y_fra, y_fst)) : Met l yX1_layStep (.code yX1_layStep cX1_layStep 10 none :: tw) ({ frames := 0, cells := 0, slots := 0, locals := 0 } : Room) (wrP D [.ref oF, .int a1, .int a2] (wdF cI cJ oF oFr oFs oFc oFw fw fc fwh fbo fra fst fco fro) [(cI, .int), (cJ, .long)] sz) (va_Qv (fun (_ : Unit) => True) (fun (_ : Unit) (t : State) => va_P D vwCl (wdF cI cJ oF oFr oFs oFc oFw fw fc fwh fbo y_fra y_fst fco fro) t.heap ∧ va_K D vwCl [(cI, .int), (cJ, .long)] t ∧ va_D (va_A (wdF cI cJ oF oFr oFs oFc oFw fw fc fwh fbo fra fst fco fro) sz) (wdF cI cJ oF oFr oFs oFc oFw fw fc fwh fbo y_fra y_fst fco fro)) (va_A (wdF cI cJ oF oFr oFs oFc oFw fw fc fwh fbo fra fst fco fro) sz)) 0 0 (va_A (wdF cI cJ oF oFr oFs oFc oFw fw fc fwh fbo fra fst fco fro) sz) := by
  refine Met.ofW (cc := cX1_layStep) (maxL := 10) (ret := none) (by decide) rfl ?_
  intro p e s m args below meth c s₁ B hml hv
  obtain ⟨rfl, hsz, hP, hK, hD0⟩ := hv
  have hx := B.exec
  have hb := B.bytes
  have hr := B.returns
  have hts : ∀ w ∈ tw, w.before _ s = true := fun w h => atoms_spec (ws := .code yX1_layStep cX1_layStep 10 none :: tw) B.pre w (List.mem_cons_of_mem _ h)
  have hown : s.vm.findClass RX1 = some m.cls := findClass_of_methodNamed B.named
  have hlocks := B.notSynchronized
  subst hsz
  have hD := hD0.self (sz := s.heap.size)
  have hl := lv_entry ([.ref oF, .int a1, .int a2]) (n := 10) (Nat.le_of_ble_eq_true rfl)
  rw [lg_entry_eq]
  generalize (lg_sl ([.ref oF, .int a1, .int a2]) ++ List.replicate (10 - (lg_sl ([.ref oF, .int a1, .int a2])).length) Slot.unset).toArray = ls at hl ⊢
  refine bX1_layStep hx hb hml hown hts hK (fun q h => Or.inr h) ⟨Nat.le_of_ble_eq_true rfl, Nat.le_of_ble_eq_true rfl, Nat.zero_le _, Nat.zero_le _⟩ hm ls hl hP hD va_S.rf (fun pc ls H locs hd hP hD hS => ?_)
  exact W.vret hx hb hr (fun t ht hW => ⟨⟨(), rfl, trivial, by rw [ht]; exact hP, va_K.moved hW.alike hK, hD⟩, hS.F ht⟩) hS.2.2 hd
set_option maxHeartbeats 4000000 in
set_option maxRecDepth 100000 in
theorem kX1_layStep {own : String} {cc : ByteArray} {nL idx pc : Nat} {ls : Array Slot} {rest : List Value} {ws wr : va_W} {n : Nat} {a1 : Int32} {a2 : Int32} {y_fra : (Nat → Int32)} {y_fst : (Nat → Int64)} (fx : CallFix p m c cc nL s args tw own) (hq : Cond.methodLink own idx yX1_layStep ∈ tw) (isC isR : List Nat) (hC : isC.map (fun i => ws[i]?) = ((wdF cI cJ oF oFr oFs oFc oFw fw fc fwh fbo fra fst fco fro) : va_W).map some) (hRr : isR.map (fun i => ws[i]?) = wr.map some) (hnC : va_nd isC = true) (hn : va_nd isR = true) (hdis : ∀ i ∈ isR, i ∉ isC) (hK : va_K D vwCl [(cI, .int), (cJ, .long)] s) (hm : mX1_layStep n fc fco fw fro fra fst a1 a2 = some (y_fra, y_fst)) (hsz : ls.size = nL) (hR : 1 ≤ R.frames ∧ 29 ≤ R.locals ∧ cells ≤ R.cells ∧ slots ≤ R.slots) (hst : (rest.map fun v => v.category).sum ≤ 8) (hd : decode cc pc = .ok (.invokevirtual idx, 3)) (hP : va_P D vwCl ws H) (hD : va_D A ws) (hS : va_S A s.heap H locs) (hA : ∀ q, s.heap.size ≤ q → A q) (kk : ∀ (H : Heap) (locs : List Loc), va_P D vwCl (wr ++ (wdF cI cJ oF oFr oFs oFc oFw fw fc fwh fbo y_fra y_fst fco fro)) H → va_D A (wr ++ (wdF cI cJ oF oFr oFs oFc oFw fw fc fwh fbo y_fra y_fst fco fro)) → va_S A s.heap H locs → W p l e R s m args below meth c H locs cells slots Q (F0 m (pc + 3) ls (rest))) : W p l e R s m args below meth c H locs cells slots Q (F0 m pc ls (.int a2 :: .int a1 :: .ref oF :: rest)) := by
  have hPc := va_P.subM hP isC hC
  have hDc := hD.sub isC hnC hC
  have hFc := va_free (wc := (wdF cI cJ oF oFr oFs oFc oFw fw fc fwh fbo fra fst fco fro)) hD hS hA isC hC
  refine va_callv (va_runV (As := [.int a1, .int a2]) (rest := rest) fx (tX1_layStep l H.size hm) (cwV 2 fx.2.2.2.2 (tw_V hq qw_364 qw_365 qw_18 qw_366) rfl rfl rfl (by decide +kernel) ⟨hR.1, hR.2.1⟩) ⟨wrP_bl, va_recv hK hPc (ci := 1) (q0 := 0) rfl rfl, wrP_ok hPc hK hDc⟩ rfl rfl hsz rfl (lv_room hst) hd ⟨hR.2.2.1, hR.2.2.2⟩) hS (fun q _ h => hFc q h) hFc (fun u t H1 locs ht hvm hw hB hz1 hk1 hS => ?_)
  obtain ⟨hP1, hK1, hD1⟩ := hB
  rw [ht] at hP1
  obtain ⟨hP2, hD2⟩ := va_join (wr := wr) (w1 := (wdF cI cJ oF oFr oFs oFc oFw fw fc fwh fbo y_fra y_fst fco fro)) hP hD isC isR hC hRr hn hdis hk1 hFc hP1 hD1
  exact kk H1 locs hP2 hD2 hS
-- X1_lay
def mX1_lay_L38 (n : Nat) (v1 : Int32) (v4 : Int32) : Nat → (Int32) → (Int32) → (Nat → Int32) → (Nat → Int32) → Option ((Int32) × (Nat → Int32) × (Nat → Int32))
  | 0, _, _, _, _ => none
  | k + 1, v3, v5, fco, fro => (if v1 ≤ v5 then some ((v3, fco, fro)) else gd (ib v3 49) (gd (ib v3 49) (mX1_lay_L38 n v1 v4 k (v3 + (1 : Int32)) (v5 + (1 : Int32)) (upd fco v3.toNatClampNeg v5) (upd fro v3.toNatClampNeg v4))))
def mX1_lay_L29 (n : Nat) (v2 : Int32) (v1 : Int32) : Nat → (Int32) → (Int32) → (Nat → Int32) → (Nat → Int32) → Option ((Nat → Int32) × (Nat → Int32))
  | 0, _, _, _, _ => none
  | k + 1, v3, v4, fco, fro => (if v2 ≤ v4 then some ((fco, fro)) else jb3 (mX1_lay_L38 n v1 v4 n v3 (0 : Int32) fco fro) (fun (y7 : Int32) (y8 : Nat → Int32) (y9 : Nat → Int32) => mX1_lay_L29 n v2 v1 k y7 (v4 + (1 : Int32)) y8 y9))
def mX1_lay_L83 (n : Nat) (fc : Int32) (fco : Nat → Int32) (fw : Int32) (fro : Nat → Int32) (v2 : Int32) (fwh : Int64) : Nat → (Int32) → (Int64) → (Nat → Int32) → (Nat → Int64) → Option ((Int64) × (Nat → Int32) × (Nat → Int64))
  | 0, _, _, _, _ => none
  | k + 1, v4, fbo, fra, fst => (if (9 : Int32) ≤ v4 then some ((fbo, fra, fst)) else jb2 (mX1_layStep n fc fco fw fro fra fst v4 v2) (fun (y18 : Nat → Int32) (y19 : Nat → Int64) => gd (ib v4 9) (mX1_lay_L83 n fc fco fw fro v2 fwh k (v4 + (1 : Int32)) (fbo ||| (fwh &&& ((y19 v4.toNatClampNeg) ^^^ (-1 : Int64)))) y18 y19)))
def mX1_lay (n : Nat) (fco : Nat → Int32) (fro : Nat → Int32) (fra : Nat → Int32) (fst : Nat → Int64) (a1 : Int32) (a2 : Int32) : Option ((Int32) × (Int32) × (Int64) × (Int64) × (Nat → Int32) × (Nat → Int64) × (Nat → Int32) × (Nat → Int32)) :=
  jb2 (mX1_lay_L29 n a2 a1 n (0 : Int32) (0 : Int32) fco fro) (fun (y11 : Nat → Int32) (y12 : Nat → Int32) => jb3 (mX1_lay_L83 n (a1 * a2) y11 a1 y12 a2 ((jlshl (1 : Int64) (a1 * a2)) - (1 : Int64)) n (0 : Int32) (0 : Int64) fra fst) (fun (y21 : Int64) (y22 : Nat → Int32) (y23 : Nat → Int64) => (some (a1, (a1 * a2), ((jlshl (1 : Int64) (a1 * a2)) - (1 : Int64)), y21, y22, y23, y11, y12))))
theorem dX1_lay_0 : decode cX1_lay 0 = .ok (.aload_n 0, 1) := by decide +kernel
theorem dX1_lay_1 : decode cX1_lay 1 = .ok (.iload_n 1, 1) := by decide +kernel
theorem dX1_lay_2 : decode cX1_lay 2 = .ok (.putfield 29, 3) := by decide +kernel
theorem dX1_lay_5 : decode cX1_lay 5 = .ok (.aload_n 0, 1) := by decide +kernel
theorem dX1_lay_6 : decode cX1_lay 6 = .ok (.iload_n 1, 1) := by decide +kernel
theorem dX1_lay_7 : decode cX1_lay 7 = .ok (.iload_n 2, 1) := by decide +kernel
theorem dX1_lay_8 : decode cX1_lay 8 = .ok (.imul, 1) := by decide +kernel
theorem dX1_lay_9 : decode cX1_lay 9 = .ok (.putfield 33, 3) := by decide +kernel
theorem dX1_lay_12 : decode cX1_lay 12 = .ok (.aload_n 0, 1) := by decide +kernel
theorem dX1_lay_13 : decode cX1_lay 13 = .ok (.lconst 1, 1) := by decide +kernel
theorem dX1_lay_14 : decode cX1_lay 14 = .ok (.aload_n 0, 1) := by decide +kernel
theorem dX1_lay_15 : decode cX1_lay 15 = .ok (.getfield 33, 3) := by decide +kernel
theorem dX1_lay_18 : decode cX1_lay 18 = .ok (.lshl, 1) := by decide +kernel
theorem dX1_lay_19 : decode cX1_lay 19 = .ok (.lconst 1, 1) := by decide +kernel
theorem dX1_lay_20 : decode cX1_lay 20 = .ok (.lsub, 1) := by decide +kernel
theorem dX1_lay_21 : decode cX1_lay 21 = .ok (.putfield 36, 3) := by decide +kernel
theorem dX1_lay_24 : decode cX1_lay 24 = .ok (.iconst 0, 1) := by decide +kernel
theorem dX1_lay_25 : decode cX1_lay 25 = .ok (.istore_n 3, 1) := by decide +kernel
theorem dX1_lay_26 : decode cX1_lay 26 = .ok (.iconst 0, 1) := by decide +kernel
theorem dX1_lay_27 : decode cX1_lay 27 = .ok (.istore 4, 2) := by decide +kernel
theorem dX1_lay_29 : decode cX1_lay 29 = .ok (.iload 4, 2) := by decide +kernel
theorem dX1_lay_31 : decode cX1_lay 31 = .ok (.iload_n 2, 1) := by decide +kernel
theorem dX1_lay_32 : decode cX1_lay 32 = .ok (.if_icmp .ge 43, 3) := by decide +kernel
theorem dX1_lay_35 : decode cX1_lay 35 = .ok (.iconst 0, 1) := by decide +kernel
theorem dX1_lay_36 : decode cX1_lay 36 = .ok (.istore 5, 2) := by decide +kernel
theorem dX1_lay_38 : decode cX1_lay 38 = .ok (.iload 5, 2) := by decide +kernel
theorem dX1_lay_40 : decode cX1_lay 40 = .ok (.iload_n 1, 1) := by decide +kernel
theorem dX1_lay_41 : decode cX1_lay 41 = .ok (.if_icmp .ge 28, 3) := by decide +kernel
theorem dX1_lay_44 : decode cX1_lay 44 = .ok (.aload_n 0, 1) := by decide +kernel
theorem dX1_lay_45 : decode cX1_lay 45 = .ok (.getfield 19, 3) := by decide +kernel
theorem dX1_lay_48 : decode cX1_lay 48 = .ok (.iload_n 3, 1) := by decide +kernel
theorem dX1_lay_49 : decode cX1_lay 49 = .ok (.iload 5, 2) := by decide +kernel
theorem dX1_lay_51 : decode cX1_lay 51 = .ok (.iastore, 1) := by decide +kernel
theorem dX1_lay_52 : decode cX1_lay 52 = .ok (.aload_n 0, 1) := by decide +kernel
theorem dX1_lay_53 : decode cX1_lay 53 = .ok (.getfield 22, 3) := by decide +kernel
theorem dX1_lay_56 : decode cX1_lay 56 = .ok (.iload_n 3, 1) := by decide +kernel
theorem dX1_lay_57 : decode cX1_lay 57 = .ok (.iload 4, 2) := by decide +kernel
theorem dX1_lay_59 : decode cX1_lay 59 = .ok (.iastore, 1) := by decide +kernel
theorem dX1_lay_60 : decode cX1_lay 60 = .ok (.iinc 3 1, 3) := by decide +kernel
theorem dX1_lay_63 : decode cX1_lay 63 = .ok (.iinc 5 1, 3) := by decide +kernel
theorem dX1_lay_66 : decode cX1_lay 66 = .ok (.goto (-28), 3) := by decide +kernel
theorem dX1_lay_69 : decode cX1_lay 69 = .ok (.iinc 4 1, 3) := by decide +kernel
theorem dX1_lay_72 : decode cX1_lay 72 = .ok (.goto (-43), 3) := by decide +kernel
theorem dX1_lay_75 : decode cX1_lay 75 = .ok (.aload_n 0, 1) := by decide +kernel
theorem dX1_lay_76 : decode cX1_lay 76 = .ok (.lconst 0, 1) := by decide +kernel
theorem dX1_lay_77 : decode cX1_lay 77 = .ok (.putfield 40, 3) := by decide +kernel
theorem dX1_lay_80 : decode cX1_lay 80 = .ok (.iconst 0, 1) := by decide +kernel
theorem dX1_lay_81 : decode cX1_lay 81 = .ok (.istore 4, 2) := by decide +kernel
theorem dX1_lay_83 : decode cX1_lay 83 = .ok (.iload 4, 2) := by decide +kernel
theorem dX1_lay_85 : decode cX1_lay 85 = .ok (.bipush 9, 2) := by decide +kernel
theorem dX1_lay_87 : decode cX1_lay 87 = .ok (.if_icmp .ge 41, 3) := by decide +kernel
theorem dX1_lay_90 : decode cX1_lay 90 = .ok (.aload_n 0, 1) := by decide +kernel
theorem dX1_lay_91 : decode cX1_lay 91 = .ok (.iload 4, 2) := by decide +kernel
theorem dX1_lay_93 : decode cX1_lay 93 = .ok (.iload_n 2, 1) := by decide +kernel
theorem dX1_lay_94 : decode cX1_lay 94 = .ok (.invokevirtual 43, 3) := by decide +kernel
theorem dX1_lay_97 : decode cX1_lay 97 = .ok (.aload_n 0, 1) := by decide +kernel
theorem dX1_lay_98 : decode cX1_lay 98 = .ok (.dup, 1) := by decide +kernel
theorem dX1_lay_99 : decode cX1_lay 99 = .ok (.getfield 40, 3) := by decide +kernel
theorem dX1_lay_102 : decode cX1_lay 102 = .ok (.aload_n 0, 1) := by decide +kernel
theorem dX1_lay_103 : decode cX1_lay 103 = .ok (.getfield 36, 3) := by decide +kernel
theorem dX1_lay_106 : decode cX1_lay 106 = .ok (.aload_n 0, 1) := by decide +kernel
theorem dX1_lay_107 : decode cX1_lay 107 = .ok (.getfield 15, 3) := by decide +kernel
theorem dX1_lay_110 : decode cX1_lay 110 = .ok (.iload 4, 2) := by decide +kernel
theorem dX1_lay_112 : decode cX1_lay 112 = .ok (.laload, 1) := by decide +kernel
theorem dX1_lay_113 : decode cX1_lay 113 = .ok (.ldc2_w 46, 3) := by decide +kernel
theorem dX1_lay_116 : decode cX1_lay 116 = .ok (.lxor, 1) := by decide +kernel
theorem dX1_lay_117 : decode cX1_lay 117 = .ok (.land, 1) := by decide +kernel
theorem dX1_lay_118 : decode cX1_lay 118 = .ok (.lor, 1) := by decide +kernel
theorem dX1_lay_119 : decode cX1_lay 119 = .ok (.putfield 40, 3) := by decide +kernel
theorem dX1_lay_122 : decode cX1_lay 122 = .ok (.iinc 4 1, 3) := by decide +kernel
theorem dX1_lay_125 : decode cX1_lay 125 = .ok (.goto (-42), 3) := by decide +kernel
theorem dX1_lay_128 : decode cX1_lay 128 = .ok (.return_, 1) := by decide +kernel
set_option maxHeartbeats 4000000 in
set_option maxRecDepth 100000 in
theorem wX1_lay_L38 {n : Nat} {v1 : Int32} {v2 : Int32} {v4 : Int32} (hx : p.tables.exec = Jvm.exec) (hb : c.code = cX1_lay) (hml : c.maxLocals = 6) (hown : s.vm.findClass RX1 = some m.cls) (hts : ∀ w ∈ tw, w.before args s = true) (hK : va_K D vwCl [(cI, .int), (cJ, .long)] s) (hA : ∀ q, s.heap.size ≤ q → A q) (hR : 1 ≤ R.frames ∧ 29 ≤ R.locals ∧ cells ≤ R.cells ∧ slots ≤ R.slots) : ∀ (k : Nat) (v3 : Int32) (v5 : Int32) (fco : Nat → Int32) (fro : Nat → Int32) (x3 : Int32) (x_fco : Nat → Int32) (x_fro : Nat → Int32), mX1_lay_L38 n v1 v4 k v3 v5 fco fro = some (x3, x_fco, x_fro) → ∀ ls : Array Slot, lv_has ls 6 [(0, .ref oF), (1, .int v1), (2, .int v2), (3, .int v3), (4, .int v4), (5, .int v5)] → ∀ (H : Heap) (locs : List Loc), va_P D vwCl (wdF cI cJ oF oFr oFs oFc oFw fw fc fwh fbo fra fst fco fro) H → va_D A (wdF cI cJ oF oFr oFs oFc oFw fw fc fwh fbo fra fst fco fro) → va_S A s.heap H locs → (∀ ls : Array Slot, lv_has ls 6 [(3, .int x3), (0, .ref oF), (1, .int v1), (2, .int v2), (4, .int v4)] → ∀ (H : Heap) (locs : List Loc), va_P D vwCl (wdF cI cJ oF oFr oFs oFc oFw fw fc fwh fbo fra fst x_fco x_fro) H → va_D A (wdF cI cJ oF oFr oFs oFc oFw fw fc fwh fbo fra fst x_fco x_fro) → va_S A s.heap H locs → W p l e R s m args below meth c H locs cells slots Q (F0 m 69 ls [])) → W p l e R s m args below meth c H locs cells slots Q (F0 m 38 ls []) := by
  intro k
  induction k with
  | zero => intro v3 v5 fco fro x3 x_fco x_fro hm; rw [mX1_lay_L38] at hm; cases hm
  | succ k ih =>
    intro v3 v5 fco fro x3 x_fco x_fro hm ls hl H locs hP hD hS K0
    rw [mX1_lay_L38] at hm
    refine lv_iload hx hb dX1_lay_38 (lv_at hl 5 rfl) ?_
    refine lv_iload_n hx hb dX1_lay_40 rfl (lv_at hl 1 rfl) ?_
    refine lv_icmp_ge (tgt := 69) hx hb dX1_lay_41 (by decide) (fun c4 => ?_) (fun c4 => ?_)
    · rw [if_pos c4] at hm
      have hm := Option.some.inj hm
      have e9 : x3 = v3 := (congrArg (fun q => q.1) hm).symm
      rw [e9] at K0
      have e9 : x_fco = fco := (congrArg (fun q => q.2.1) hm).symm
      rw [e9] at K0
      have e9 : x_fro = fro := (congrArg (fun q => q.2.2) hm).symm
      rw [e9] at K0
      exact K0 ls (lv_sub hl [3, 0, 1, 2, 4] rfl) _ _ hP hD hS
    · rw [if_neg c4] at hm
      refine lv_aload_n hx hb dX1_lay_44 rfl (lv_at hl 0 rfl) ?_
      refine va_get (D := D) (ci := 1) (v := .ref oFc) (C := RX1) (T := TX1) (N := 8) hx hb hts tnX1 hown hK hP 0 rfl rfl 6 (by decide) (hts _ qw_38) (fun _ h9 => h9) rfl dX1_lay_45 ?_
      refine lv_iload_n hx hb dX1_lay_48 rfl (lv_at hl 3 rfl) ?_
      refine lv_iload hx hb dX1_lay_49 (lv_at hl 5 rfl) ?_
      obtain ⟨g5, hm⟩ := gd_out hm
      refine va_iast hx hb hK hP hD hS 3 0 rfl rfl g5 dX1_lay_51 (fun H locs hP hD hS => ?_)
      have hP : va_P D vwCl (wdF cI cJ oF oFr oFs oFc oFw fw fc fwh fbo fra fst (upd fco v3.toNatClampNeg v5) fro) H := hP
      have hD : va_D A (wdF cI cJ oF oFr oFs oFc oFw fw fc fwh fbo fra fst (upd fco v3.toNatClampNeg v5) fro) := hD
      refine lv_aload_n hx hb dX1_lay_52 rfl (lv_at hl 0 rfl) ?_
      refine va_get (D := D) (ci := 1) (v := .ref oFw) (C := RX1) (T := TX1) (N := 8) hx hb hts tnX1 hown hK hP 0 rfl rfl 7 (by decide) (hts _ qw_39) (fun _ h9 => h9) rfl dX1_lay_53 ?_
      refine lv_iload_n hx hb dX1_lay_56 rfl (lv_at hl 3 rfl) ?_
      refine lv_iload hx hb dX1_lay_57 (lv_at hl 4 rfl) ?_
      obtain ⟨g6, hm⟩ := gd_out hm
      refine va_iast hx hb hK hP hD hS 4 0 rfl rfl g6 dX1_lay_59 (fun H locs hP hD hS => ?_)
      have hP : va_P D vwCl (wdF cI cJ oF oFr oFs oFc oFw fw fc fwh fbo fra fst (upd fco v3.toNatClampNeg v5) (upd fro v3.toNatClampNeg v4)) H := hP
      have hD : va_D A (wdF cI cJ oF oFr oFs oFc oFw fw fc fwh fbo fra fst (upd fco v3.toNatClampNeg v5) (upd fro v3.toNatClampNeg v4)) := hD
      refine lv_iinc (v := (v3 + (1 : Int32))) (lv' := [(3, .int (v3 + (1 : Int32))), (0, .ref oF), (1, .int v1), (2, .int v2), (4, .int v4), (5, .int v5)]) hx hb dX1_lay_60 hl (k := 3) rfl (by rfl) (by decide) rfl (fun ls hl => ?_)
      refine lv_iinc (v := (v5 + (1 : Int32))) (lv' := [(5, .int (v5 + (1 : Int32))), (3, .int (v3 + (1 : Int32))), (0, .ref oF), (1, .int v1), (2, .int v2), (4, .int v4)]) hx hb dX1_lay_63 hl (k := 5) rfl (by rfl) (by decide) rfl (fun ls hl => ?_)
      refine lv_goto (tgt := 38) hx hb dX1_lay_66 (by decide) ?_
      exact ih _ _ _ _ _ _ _ hm ls (lv_sub hl [2, 3, 4, 1, 5, 0] rfl) _ _ hP hD hS K0
set_option maxHeartbeats 4000000 in
set_option maxRecDepth 100000 in
theorem wX1_lay_L29 {n : Nat} {v1 : Int32} {v2 : Int32} (hx : p.tables.exec = Jvm.exec) (hb : c.code = cX1_lay) (hml : c.maxLocals = 6) (hown : s.vm.findClass RX1 = some m.cls) (hts : ∀ w ∈ tw, w.before args s = true) (hK : va_K D vwCl [(cI, .int), (cJ, .long)] s) (hA : ∀ q, s.heap.size ≤ q → A q) (hR : 1 ≤ R.frames ∧ 29 ≤ R.locals ∧ cells ≤ R.cells ∧ slots ≤ R.slots) : ∀ (k : Nat) (v3 : Int32) (v4 : Int32) (fco : Nat → Int32) (fro : Nat → Int32) (x_fco : Nat → Int32) (x_fro : Nat → Int32), mX1_lay_L29 n v2 v1 k v3 v4 fco fro = some (x_fco, x_fro) → ∀ ls : Array Slot, lv_has ls 6 [(0, .ref oF), (1, .int v1), (2, .int v2), (3, .int v3), (4, .int v4)] → ∀ (H : Heap) (locs : List Loc), va_P D vwCl (wdF cI cJ oF oFr oFs oFc oFw fw fc fwh fbo fra fst fco fro) H → va_D A (wdF cI cJ oF oFr oFs oFc oFw fw fc fwh fbo fra fst fco fro) → va_S A s.heap H locs → (∀ ls : Array Slot, lv_has ls 6 [(0, .ref oF), (2, .int v2)] → ∀ (H : Heap) (locs : List Loc), va_P D vwCl (wdF cI cJ oF oFr oFs oFc oFw fw fc fwh fbo fra fst x_fco x_fro) H → va_D A (wdF cI cJ oF oFr oFs oFc oFw fw fc fwh fbo fra fst x_fco x_fro) → va_S A s.heap H locs → W p l e R s m args below meth c H locs cells slots Q (F0 m 75 ls [])) → W p l e R s m args below meth c H locs cells slots Q (F0 m 29 ls []) := by
  intro k
  induction k with
  | zero => intro v3 v4 fco fro x_fco x_fro hm; rw [mX1_lay_L29] at hm; cases hm
  | succ k ih =>
    intro v3 v4 fco fro x_fco x_fro hm ls hl H locs hP hD hS K0
    rw [mX1_lay_L29] at hm
    refine lv_iload hx hb dX1_lay_29 (lv_at hl 4 rfl) ?_
    refine lv_iload_n hx hb dX1_lay_31 rfl (lv_at hl 2 rfl) ?_
    refine lv_icmp_ge (tgt := 75) hx hb dX1_lay_32 (by decide) (fun c2 => ?_) (fun c2 => ?_)
    · rw [if_pos c2] at hm
      have hm := Option.some.inj hm
      have e9 : x_fco = fco := (congrArg (fun q => q.1) hm).symm
      rw [e9] at K0
      have e9 : x_fro = fro := (congrArg (fun q => q.2) hm).symm
      rw [e9] at K0
      exact K0 ls (lv_sub hl [0, 2] rfl) _ _ hP hD hS
    · rw [if_neg c2] at hm
      refine lv_iconst (v := (0 : Int32)) hx hb dX1_lay_35 (by decide) ?_
      refine lv_istore (lv' := [(5, .int (0 : Int32)), (0, .ref oF), (1, .int v1), (2, .int v2), (3, .int v3), (4, .int v4)]) hx hb dX1_lay_36 hl (by decide) rfl (fun ls hl => ?_)
      obtain ⟨y7, y8, y9, h10, hm⟩ := jb_out3 hm
      refine wX1_lay_L38 hx hb hml hown hts hK hA hR n _ _ _ _ _ _ _  h10 ls (lv_sub hl [1, 2, 3, 4, 5, 0] rfl) _ _ hP hD hS (fun ls hl H locs hP hD hS => ?_)
      refine lv_iinc (v := (v4 + (1 : Int32))) (lv' := [(4, .int (v4 + (1 : Int32))), (3, .int y7), (0, .ref oF), (1, .int v1), (2, .int v2)]) hx hb dX1_lay_69 hl (k := 4) rfl (by rfl) (by decide) rfl (fun ls hl => ?_)
      refine lv_goto (tgt := 29) hx hb dX1_lay_72 (by decide) ?_
      exact ih _ _ _ _ _ _ hm ls (lv_sub hl [2, 3, 4, 1, 0] rfl) _ _ hP hD hS K0
set_option maxHeartbeats 4000000 in
set_option maxRecDepth 100000 in
theorem wX1_lay_L83 {n : Nat} {v2 : Int32} (hx : p.tables.exec = Jvm.exec) (hb : c.code = cX1_lay) (hml : c.maxLocals = 6) (hown : s.vm.findClass RX1 = some m.cls) (hts : ∀ w ∈ tw, w.before args s = true) (hK : va_K D vwCl [(cI, .int), (cJ, .long)] s) (hA : ∀ q, s.heap.size ≤ q → A q) (hR : 1 ≤ R.frames ∧ 29 ≤ R.locals ∧ cells ≤ R.cells ∧ slots ≤ R.slots) : ∀ (k : Nat) (v4 : Int32) (fbo : Int64) (fra : Nat → Int32) (fst : Nat → Int64) (x_fbo : Int64) (x_fra : Nat → Int32) (x_fst : Nat → Int64), mX1_lay_L83 n fc fco fw fro v2 fwh k v4 fbo fra fst = some (x_fbo, x_fra, x_fst) → ∀ ls : Array Slot, lv_has ls 6 [(0, .ref oF), (2, .int v2), (4, .int v4)] → ∀ (H : Heap) (locs : List Loc), va_P D vwCl (wdF cI cJ oF oFr oFs oFc oFw fw fc fwh fbo fra fst fco fro) H → va_D A (wdF cI cJ oF oFr oFs oFc oFw fw fc fwh fbo fra fst fco fro) → va_S A s.heap H locs → (∀ ls : Array Slot, lv_has ls 6 [] → ∀ (H : Heap) (locs : List Loc), va_P D vwCl (wdF cI cJ oF oFr oFs oFc oFw fw fc fwh x_fbo x_fra x_fst fco fro) H → va_D A (wdF cI cJ oF oFr oFs oFc oFw fw fc fwh x_fbo x_fra x_fst fco fro) → va_S A s.heap H locs → W p l e R s m args below meth c H locs cells slots Q (F0 m 128 ls [])) → W p l e R s m args below meth c H locs cells slots Q (F0 m 83 ls []) := by
  intro k
  induction k with
  | zero => intro v4 fbo fra fst x_fbo x_fra x_fst hm; rw [mX1_lay_L83] at hm; cases hm
  | succ k ih =>
    intro v4 fbo fra fst x_fbo x_fra x_fst hm ls hl H locs hP hD hS K0
    rw [mX1_lay_L83] at hm
    refine lv_iload hx hb dX1_lay_83 (lv_at hl 2 rfl) ?_
    refine lv_bipush (v := (9 : Int32)) hx hb dX1_lay_85 (by decide) ?_
    refine lv_icmp_ge (tgt := 128) hx hb dX1_lay_87 (by decide) (fun c15 => ?_) (fun c15 => ?_)
    · rw [if_pos c15] at hm
      have hm := Option.some.inj hm
      have e9 : x_fbo = fbo := (congrArg (fun q => q.1) hm).symm
      rw [e9] at K0
      have e9 : x_fra = fra := (congrArg (fun q => q.2.1) hm).symm
      rw [e9] at K0
      have e9 : x_fst = fst := (congrArg (fun q => q.2.2) hm).symm
      rw [e9] at K0
      exact K0 ls (lv_sub hl [] rfl) _ _ hP hD hS
    · rw [if_neg c15] at hm
      refine lv_aload_n hx hb dX1_lay_90 rfl (lv_at hl 0 rfl) ?_
      refine lv_iload hx hb dX1_lay_91 (lv_at hl 2 rfl) ?_
      refine lv_iload_n hx hb dX1_lay_93 rfl (lv_at hl 1 rfl) ?_
      obtain ⟨y18, y19, h17, hm⟩ := jb_out2 hm
      refine kX1_layStep (ws := (wdF cI cJ oF oFr oFs oFc oFw fw fc fwh fbo fra fst fco fro)) (wr := []) ⟨hx, hb, hml, hown, hts⟩ qw_368 [0, 1, 2, 3, 4] [] rfl rfl (by decide) (by decide) (by decide) hK h17 hl.1 ⟨Nat.le_trans (by decide) hR.1, Nat.le_trans (by decide) hR.2.1, hR.2.2⟩ (Nat.le_of_ble_eq_true rfl) dX1_lay_94 hP hD hS hA (fun H locs hP hD hS => ?_)
      have hP : va_P D vwCl (wdF cI cJ oF oFr oFs oFc oFw fw fc fwh fbo y18 y19 fco fro) H := hP.sub [0, 1, 2, 3, 4] rfl
      have hD : va_D A (wdF cI cJ oF oFr oFs oFc oFw fw fc fwh fbo y18 y19 fco fro) := hD.sub [0, 1, 2, 3, 4] (by decide) rfl
      refine lv_aload_n hx hb dX1_lay_97 rfl (lv_at hl 0 rfl) ?_
      refine lv_dup hx hb dX1_lay_98 rfl ?_
      refine va_get (D := D) (ci := 1) (v := .long fbo) (C := RX1) (T := TX1) (N := 8) hx hb hts tnX1 hown hK hP 0 rfl rfl 3 (by decide) (hts _ qw_367) (fun _ h9 => h9) rfl dX1_lay_99 ?_
      refine lv_aload_n hx hb dX1_lay_102 rfl (lv_at hl 0 rfl) ?_
      refine va_get (D := D) (ci := 1) (v := .long fwh) (C := RX1) (T := TX1) (N := 8) hx hb hts tnX1 hown hK hP 0 rfl rfl 2 (by decide) (hts _ qw_32) (fun _ h9 => h9) rfl dX1_lay_103 ?_
      refine lv_aload_n hx hb dX1_lay_106 rfl (lv_at hl 0 rfl) ?_
      refine va_get (D := D) (ci := 1) (v := .ref oFs) (C := RX1) (T := TX1) (N := 8) hx hb hts tnX1 hown hK hP 0 rfl rfl 5 (by decide) (hts _ qw_21) (fun _ h9 => h9) rfl dX1_lay_107 ?_
      refine lv_iload hx hb dX1_lay_110 (lv_at hl 2 rfl) ?_
      obtain ⟨g20, hm⟩ := gd_out hm
      refine va_lald hx hb hK hP 2 1 rfl rfl g20 dX1_lay_112 ?_
      refine lv_ldc2 (v := (-1 : Int64)) hx hb hown (hts _ qw_34) dX1_lay_113 ?_
      refine lv_lxor hx hb dX1_lay_116 ?_
      refine lv_land hx hb dX1_lay_117 ?_
      refine lv_lor hx hb dX1_lay_118 ?_
      refine va_put (D := D) (ci := 1) (v := .long (fbo ||| (fwh &&& ((y19 v4.toNatClampNeg) ^^^ (-1 : Int64))))) (ty := .long) (C := RX1) (T := TX1) (N := 8) hx hb hts tnX1 tyX1 tyX1_ok nmX1 hown hK hP hD hS 0 rfl rfl 3 (by decide) (hts _ qw_367) (fun _ h9 => h9) rfl (by decide +kernel) rfl rfl (Nat.le_of_ble_eq_true rfl) dX1_lay_119 (fun H locs hP hD hS => ?_)
      have hP : va_P D vwCl (wdF cI cJ oF oFr oFs oFc oFw fw fc fwh (fbo ||| (fwh &&& ((y19 v4.toNatClampNeg) ^^^ (-1 : Int64)))) y18 y19 fco fro) H := hP
      have hD : va_D A (wdF cI cJ oF oFr oFs oFc oFw fw fc fwh (fbo ||| (fwh &&& ((y19 v4.toNatClampNeg) ^^^ (-1 : Int64)))) y18 y19 fco fro) := hD
      refine lv_iinc (v := (v4 + (1 : Int32))) (lv' := [(4, .int (v4 + (1 : Int32))), (0, .ref oF), (2, .int v2)]) hx hb dX1_lay_122 hl (k := 2) rfl (by rfl) (by decide) rfl (fun ls hl => ?_)
      refine lv_goto (tgt := 83) hx hb dX1_lay_125 (by decide) ?_
      exact ih _ _ _ _ _ _ _ hm ls (lv_sub hl [1, 2, 0] rfl) _ _ hP hD hS K0
set_option maxHeartbeats 4000000 in
set_option maxRecDepth 100000 in
theorem bX1_lay {n : Nat} {a1 : Int32} {a2 : Int32} {y_fw : (Int32)} {y_fc : (Int32)} {y_fwh : (Int64)} {y_fbo : (Int64)} {y_fra : (Nat → Int32)} {y_fst : (Nat → Int64)} {y_fco : (Nat → Int32)} {y_fro : (Nat → Int32)} (hx : p.tables.exec = Jvm.exec) (hb : c.code = cX1_lay) (hml : c.maxLocals = 6) (hown : s.vm.findClass RX1 = some m.cls) (hts : ∀ w ∈ tw, w.before args s = true) (hK : va_K D vwCl [(cI, .int), (cJ, .long)] s) (hA : ∀ q, s.heap.size ≤ q → A q) (hR : 1 ≤ R.frames ∧ 29 ≤ R.locals ∧ cells ≤ R.cells ∧ slots ≤ R.slots) (hm : mX1_lay n fco fro fra fst a1 a2 = some (y_fw, y_fc, y_fwh, y_fbo, y_fra, y_fst, y_fco, y_fro)) (ls : Array Slot) (hl : lv_has ls 6 [(0, .ref oF), (1, .int a1), (2, .int a2)]) (hP : va_P D vwCl (wdF cI cJ oF oFr oFs oFc oFw fw fc fwh fbo fra fst fco fro) H) (hD : va_D A (wdF cI cJ oF oFr oFs oFc oFw fw fc fwh fbo fra fst fco fro)) (hS : va_S A s.heap H locs) (K : ∀ (pc : Nat) (ls : Array Slot) (H : Heap) (locs : List Loc), decode cX1_lay pc = .ok (.return_, 1) → va_P D vwCl (wdF cI cJ oF oFr oFs oFc oFw y_fw y_fc y_fwh y_fbo y_fra y_fst y_fco y_fro) H → va_D A (wdF cI cJ oF oFr oFs oFc oFw y_fw y_fc y_fwh y_fbo y_fra y_fst y_fco y_fro) → va_S A s.heap H locs → W p l e R s m args below meth c H locs cells slots Q (F0 m pc ls [])) : W p l e R s m args below meth c H locs cells slots Q (F0 m 0 ls []) := by
  unfold mX1_lay at hm
  refine lv_aload_n hx hb dX1_lay_0 rfl (lv_at hl 0 rfl) ?_
  refine lv_iload_n hx hb dX1_lay_1 rfl (lv_at hl 1 rfl) ?_
  refine va_put (D := D) (ci := 1) (v := .int a1) (ty := .int) (C := RX1) (T := TX1) (N := 8) hx hb hts tnX1 tyX1 tyX1_ok nmX1 hown hK hP hD hS 0 rfl rfl 0 (by decide) (hts _ qw_40) (fun _ h9 => h9) rfl (by decide +kernel) rfl rfl (Nat.le_of_ble_eq_true rfl) dX1_lay_2 (fun H locs hP hD hS => ?_)
  have hP : va_P D vwCl (wdF cI cJ oF oFr oFs oFc oFw a1 fc fwh fbo fra fst fco fro) H := hP
  have hD : va_D A (wdF cI cJ oF oFr oFs oFc oFw a1 fc fwh fbo fra fst fco fro) := hD
  refine lv_aload_n hx hb dX1_lay_5 rfl (lv_at hl 0 rfl) ?_
  refine lv_iload_n hx hb dX1_lay_6 rfl (lv_at hl 1 rfl) ?_
  refine lv_iload_n hx hb dX1_lay_7 rfl (lv_at hl 2 rfl) ?_
  refine lv_imul hx hb dX1_lay_8 ?_
  refine va_put (D := D) (ci := 1) (v := .int (a1 * a2)) (ty := .int) (C := RX1) (T := TX1) (N := 8) hx hb hts tnX1 tyX1 tyX1_ok nmX1 hown hK hP hD hS 0 rfl rfl 1 (by decide) (hts _ qw_15) (fun _ h9 => h9) rfl (by decide +kernel) rfl rfl (Nat.le_of_ble_eq_true rfl) dX1_lay_9 (fun H locs hP hD hS => ?_)
  have hP : va_P D vwCl (wdF cI cJ oF oFr oFs oFc oFw a1 (a1 * a2) fwh fbo fra fst fco fro) H := hP
  have hD : va_D A (wdF cI cJ oF oFr oFs oFc oFw a1 (a1 * a2) fwh fbo fra fst fco fro) := hD
  refine lv_aload_n hx hb dX1_lay_12 rfl (lv_at hl 0 rfl) ?_
  refine lv_lconst (v := (1 : Int64)) hx hb dX1_lay_13 (by decide) ?_
  refine lv_aload_n hx hb dX1_lay_14 rfl (lv_at hl 0 rfl) ?_
  refine va_get (D := D) (ci := 1) (v := .int (a1 * a2)) (C := RX1) (T := TX1) (N := 8) hx hb hts tnX1 hown hK hP 0 rfl rfl 1 (by decide) (hts _ qw_15) (fun _ h9 => h9) rfl dX1_lay_15 ?_
  refine lv_lshl (v := (jlshl (1 : Int64) (a1 * a2))) hx hb dX1_lay_18 rfl ?_
  refine lv_lconst (v := (1 : Int64)) hx hb dX1_lay_19 (by decide) ?_
  refine lv_lsub hx hb dX1_lay_20 ?_
  refine va_put (D := D) (ci := 1) (v := .long ((jlshl (1 : Int64) (a1 * a2)) - (1 : Int64))) (ty := .long) (C := RX1) (T := TX1) (N := 8) hx hb hts tnX1 tyX1 tyX1_ok nmX1 hown hK hP hD hS 0 rfl rfl 2 (by decide) (hts _ qw_32) (fun _ h9 => h9) rfl (by decide +kernel) rfl rfl (Nat.le_of_ble_eq_true rfl) dX1_lay_21 (fun H locs hP hD hS => ?_)
  have hP : va_P D vwCl (wdF cI cJ oF oFr oFs oFc oFw a1 (a1 * a2) ((jlshl (1 : Int64) (a1 * a2)) - (1 : Int64)) fbo fra fst fco fro) H := hP
  have hD : va_D A (wdF cI cJ oF oFr oFs oFc oFw a1 (a1 * a2) ((jlshl (1 : Int64) (a1 * a2)) - (1 : Int64)) fbo fra fst fco fro) := hD
  refine lv_iconst (v := (0 : Int32)) hx hb dX1_lay_24 (by decide) ?_
  refine lv_istore_n (lv' := [(3, .int (0 : Int32)), (0, .ref oF), (1, .int a1), (2, .int a2)]) hx hb dX1_lay_25 rfl hl (by decide) rfl (fun ls hl => ?_)
  refine lv_iconst (v := (0 : Int32)) hx hb dX1_lay_26 (by decide) ?_
  refine lv_istore (lv' := [(4, .int (0 : Int32)), (3, .int (0 : Int32)), (0, .ref oF), (1, .int a1), (2, .int a2)]) hx hb dX1_lay_27 hl (by decide) rfl (fun ls hl => ?_)
  obtain ⟨y11, y12, h13, hm⟩ := jb_out2 hm
  refine wX1_lay_L29 hx hb hml hown hts hK hA hR n _ _ _ _ _ _  h13 ls (lv_sub hl [2, 3, 4, 1, 0] rfl) _ _ hP hD hS (fun ls hl H locs hP hD hS => ?_)
  refine lv_aload_n hx hb dX1_lay_75 rfl (lv_at hl 0 rfl) ?_
  refine lv_lconst (v := (0 : Int64)) hx hb dX1_lay_76 (by decide) ?_
  refine va_put (D := D) (ci := 1) (v := .long (0 : Int64)) (ty := .long) (C := RX1) (T := TX1) (N := 8) hx hb hts tnX1 tyX1 tyX1_ok nmX1 hown hK hP hD hS 0 rfl rfl 3 (by decide) (hts _ qw_367) (fun _ h9 => h9) rfl (by decide +kernel) rfl rfl (Nat.le_of_ble_eq_true rfl) dX1_lay_77 (fun H locs hP hD hS => ?_)
  have hP : va_P D vwCl (wdF cI cJ oF oFr oFs oFc oFw a1 (a1 * a2) ((jlshl (1 : Int64) (a1 * a2)) - (1 : Int64)) (0 : Int64) fra fst y11 y12) H := hP
  have hD : va_D A (wdF cI cJ oF oFr oFs oFc oFw a1 (a1 * a2) ((jlshl (1 : Int64) (a1 * a2)) - (1 : Int64)) (0 : Int64) fra fst y11 y12) := hD
  refine lv_iconst (v := (0 : Int32)) hx hb dX1_lay_80 (by decide) ?_
  refine lv_istore (lv' := [(4, .int (0 : Int32)), (0, .ref oF), (2, .int a2)]) hx hb dX1_lay_81 hl (by decide) rfl (fun ls hl => ?_)
  obtain ⟨y21, y22, y23, h24, hm⟩ := jb_out3 hm
  refine wX1_lay_L83 hx hb hml hown hts hK hA hR n _ _ _ _ _ _ _  h24 ls (lv_sub hl [1, 2, 0] rfl) _ _ hP hD hS (fun ls hl H locs hP hD hS => ?_)
  have hm := Option.some.inj hm
  have e9 : y_fw = a1 := (congrArg (fun q => q.1) hm).symm
  rw [e9] at K
  have e9 : y_fc = (a1 * a2) := (congrArg (fun q => q.2.1) hm).symm
  rw [e9] at K
  have e9 : y_fwh = ((jlshl (1 : Int64) (a1 * a2)) - (1 : Int64)) := (congrArg (fun q => q.2.2.1) hm).symm
  rw [e9] at K
  have e9 : y_fbo = y21 := (congrArg (fun q => q.2.2.2.1) hm).symm
  rw [e9] at K
  have e9 : y_fra = y22 := (congrArg (fun q => q.2.2.2.2.1) hm).symm
  rw [e9] at K
  have e9 : y_fst = y23 := (congrArg (fun q => q.2.2.2.2.2.1) hm).symm
  rw [e9] at K
  have e9 : y_fco = y11 := (congrArg (fun q => q.2.2.2.2.2.2.1) hm).symm
  rw [e9] at K
  have e9 : y_fro = y12 := (congrArg (fun q => q.2.2.2.2.2.2.2) hm).symm
  rw [e9] at K
  exact K 128 ls _ _ dX1_lay_128 hP hD hS
set_option maxHeartbeats 4000000 in
set_option maxRecDepth 100000 in
theorem tX1_lay (l : Launch) {D : va_G} (sz : Nat) {n : Nat} {a1 : Int32} {a2 : Int32} {y_fw : (Int32)} {y_fc : (Int32)} {y_fwh : (Int64)} {y_fbo : (Int64)} {y_fra : (Nat → Int32)} {y_fst : (Nat → Int64)} {y_fco : (Nat → Int32)} {y_fro : (Nat → Int32)} (hm : mX1_lay n fco fro fra fst a1 a2 = some (y_fw, y_fc, y_fwh, y_fbo, y_fra, y_fst, y_fco, y_fro)) : Met l yX1_lay (.code yX1_lay cX1_lay 6 none :: tw) ({ frames := 1, cells := 0, slots := 0, locals := 29 } : Room) (wrP D [.ref oF, .int a1, .int a2] (wdF cI cJ oF oFr oFs oFc oFw fw fc fwh fbo fra fst fco fro) [(cI, .int), (cJ, .long)] sz) (va_Qv (fun (_ : Unit) => True) (fun (_ : Unit) (t : State) => va_P D vwCl (wdF cI cJ oF oFr oFs oFc oFw y_fw y_fc y_fwh y_fbo y_fra y_fst y_fco y_fro) t.heap ∧ va_K D vwCl [(cI, .int), (cJ, .long)] t ∧ va_D (va_A (wdF cI cJ oF oFr oFs oFc oFw fw fc fwh fbo fra fst fco fro) sz) (wdF cI cJ oF oFr oFs oFc oFw y_fw y_fc y_fwh y_fbo y_fra y_fst y_fco y_fro)) (va_A (wdF cI cJ oF oFr oFs oFc oFw fw fc fwh fbo fra fst fco fro) sz)) 0 0 (va_A (wdF cI cJ oF oFr oFs oFc oFw fw fc fwh fbo fra fst fco fro) sz) := by
  refine Met.ofW (cc := cX1_lay) (maxL := 6) (ret := none) (by decide) rfl ?_
  intro p e s m args below meth c s₁ B hml hv
  obtain ⟨rfl, hsz, hP, hK, hD0⟩ := hv
  have hx := B.exec
  have hb := B.bytes
  have hr := B.returns
  have hts : ∀ w ∈ tw, w.before _ s = true := fun w h => atoms_spec (ws := .code yX1_lay cX1_lay 6 none :: tw) B.pre w (List.mem_cons_of_mem _ h)
  have hown : s.vm.findClass RX1 = some m.cls := findClass_of_methodNamed B.named
  have hlocks := B.notSynchronized
  subst hsz
  have hD := hD0.self (sz := s.heap.size)
  have hl := lv_entry ([.ref oF, .int a1, .int a2]) (n := 6) (Nat.le_of_ble_eq_true rfl)
  rw [lg_entry_eq]
  generalize (lg_sl ([.ref oF, .int a1, .int a2]) ++ List.replicate (6 - (lg_sl ([.ref oF, .int a1, .int a2])).length) Slot.unset).toArray = ls at hl ⊢
  refine bX1_lay hx hb hml hown hts hK (fun q h => Or.inr h) ⟨Nat.le_of_ble_eq_true rfl, Nat.le_of_ble_eq_true rfl, Nat.zero_le _, Nat.zero_le _⟩ hm ls hl hP hD va_S.rf (fun pc ls H locs hd hP hD hS => ?_)
  exact W.vret hx hb hr (fun t ht hW => ⟨⟨(), rfl, trivial, by rw [ht]; exact hP, va_K.moved hW.alike hK, hD⟩, hS.F ht⟩) hS.2.2 hd
set_option maxHeartbeats 4000000 in
set_option maxRecDepth 100000 in
theorem kX1_lay {own : String} {cc : ByteArray} {nL idx pc : Nat} {ls : Array Slot} {rest : List Value} {ws wr : va_W} {n : Nat} {a1 : Int32} {a2 : Int32} {y_fw : (Int32)} {y_fc : (Int32)} {y_fwh : (Int64)} {y_fbo : (Int64)} {y_fra : (Nat → Int32)} {y_fst : (Nat → Int64)} {y_fco : (Nat → Int32)} {y_fro : (Nat → Int32)} (fx : CallFix p m c cc nL s args tw own) (hq : Cond.methodLink own idx yX1_lay ∈ tw) (isC isR : List Nat) (hC : isC.map (fun i => ws[i]?) = ((wdF cI cJ oF oFr oFs oFc oFw fw fc fwh fbo fra fst fco fro) : va_W).map some) (hRr : isR.map (fun i => ws[i]?) = wr.map some) (hnC : va_nd isC = true) (hn : va_nd isR = true) (hdis : ∀ i ∈ isR, i ∉ isC) (hK : va_K D vwCl [(cI, .int), (cJ, .long)] s) (hm : mX1_lay n fco fro fra fst a1 a2 = some (y_fw, y_fc, y_fwh, y_fbo, y_fra, y_fst, y_fco, y_fro)) (hsz : ls.size = nL) (hR : 2 ≤ R.frames ∧ 54 ≤ R.locals ∧ cells ≤ R.cells ∧ slots ≤ R.slots) (hst : (rest.map fun v => v.category).sum ≤ 8) (hd : decode cc pc = .ok (.invokevirtual idx, 3)) (hP : va_P D vwCl ws H) (hD : va_D A ws) (hS : va_S A s.heap H locs) (hA : ∀ q, s.heap.size ≤ q → A q) (kk : ∀ (H : Heap) (locs : List Loc), va_P D vwCl (wr ++ (wdF cI cJ oF oFr oFs oFc oFw y_fw y_fc y_fwh y_fbo y_fra y_fst y_fco y_fro)) H → va_D A (wr ++ (wdF cI cJ oF oFr oFs oFc oFw y_fw y_fc y_fwh y_fbo y_fra y_fst y_fco y_fro)) → va_S A s.heap H locs → W p l e R s m args below meth c H locs cells slots Q (F0 m (pc + 3) ls (rest))) : W p l e R s m args below meth c H locs cells slots Q (F0 m pc ls (.int a2 :: .int a1 :: .ref oF :: rest)) := by
  have hPc := va_P.subM hP isC hC
  have hDc := hD.sub isC hnC hC
  have hFc := va_free (wc := (wdF cI cJ oF oFr oFs oFc oFw fw fc fwh fbo fra fst fco fro)) hD hS hA isC hC
  refine va_callv (va_runV (As := [.int a1, .int a2]) (rest := rest) fx (tX1_lay l H.size hm) (cwV 2 fx.2.2.2.2 (tw_V hq qw_369 qw_370 qw_18 qw_371) rfl rfl rfl (by decide +kernel) ⟨hR.1, hR.2.1⟩) ⟨wrP_bl, va_recv hK hPc (ci := 1) (q0 := 0) rfl rfl, wrP_ok hPc hK hDc⟩ rfl rfl hsz rfl (lv_room hst) hd ⟨hR.2.2.1, hR.2.2.2⟩) hS (fun q _ h => hFc q h) hFc (fun u t H1 locs ht hvm hw hB hz1 hk1 hS => ?_)
  obtain ⟨hP1, hK1, hD1⟩ := hB
  rw [ht] at hP1
  obtain ⟨hP2, hD2⟩ := va_join (wr := wr) (w1 := (wdF cI cJ oF oFr oFs oFc oFw y_fw y_fc y_fwh y_fbo y_fra y_fst y_fco y_fro)) hP hD isC isR hC hRr hn hdis hk1 hFc hP1 hD1
  exact kk H1 locs hP2 hD2 hS
-- X4_append
def mX4_append (gsz : Int32) (gac : Nat → Int32) (a1 : Int32) : Option (Int32 × (Int32) × (Nat → Int32)) :=
  (if gsz < (8 : Int32) then gd (ib gsz 8) ((some ((1 : Int32), (gsz + (1 : Int32)), (upd gac gsz.toNatClampNeg a1)))) else (some ((0 : Int32), gsz, gac)))
theorem dX4_append_0 : decode cX4_append 0 = .ok (.aload_n 0, 1) := by decide +kernel
theorem dX4_append_1 : decode cX4_append 1 = .ok (.getfield 13, 3) := by decide +kernel
theorem dX4_append_4 : decode cX4_append 4 = .ok (.bipush 8, 2) := by decide +kernel
theorem dX4_append_6 : decode cX4_append 6 = .ok (.if_icmp .lt 5, 3) := by decide +kernel
theorem dX4_append_9 : decode cX4_append 9 = .ok (.iconst 0, 1) := by decide +kernel
theorem dX4_append_10 : decode cX4_append 10 = .ok (.ireturn, 1) := by decide +kernel
theorem dX4_append_11 : decode cX4_append 11 = .ok (.aload_n 0, 1) := by decide +kernel
theorem dX4_append_12 : decode cX4_append 12 = .ok (.getfield 9, 3) := by decide +kernel
theorem dX4_append_15 : decode cX4_append 15 = .ok (.aload_n 0, 1) := by decide +kernel
theorem dX4_append_16 : decode cX4_append 16 = .ok (.getfield 13, 3) := by decide +kernel
theorem dX4_append_19 : decode cX4_append 19 = .ok (.iload_n 1, 1) := by decide +kernel
theorem dX4_append_20 : decode cX4_append 20 = .ok (.iastore, 1) := by decide +kernel
theorem dX4_append_21 : decode cX4_append 21 = .ok (.aload_n 0, 1) := by decide +kernel
theorem dX4_append_22 : decode cX4_append 22 = .ok (.dup, 1) := by decide +kernel
theorem dX4_append_23 : decode cX4_append 23 = .ok (.getfield 13, 3) := by decide +kernel
theorem dX4_append_26 : decode cX4_append 26 = .ok (.iconst 1, 1) := by decide +kernel
theorem dX4_append_27 : decode cX4_append 27 = .ok (.iadd, 1) := by decide +kernel
theorem dX4_append_28 : decode cX4_append 28 = .ok (.putfield 13, 3) := by decide +kernel
theorem dX4_append_31 : decode cX4_append 31 = .ok (.iconst 1, 1) := by decide +kernel
theorem dX4_append_32 : decode cX4_append 32 = .ok (.ireturn, 1) := by decide +kernel
set_option maxHeartbeats 4000000 in
set_option maxRecDepth 100000 in
theorem bX4_append {a1 : Int32} {r : Int32} {y_gsz : (Int32)} {y_gac : (Nat → Int32)} (hx : p.tables.exec = Jvm.exec) (hb : c.code = cX4_append) (hml : c.maxLocals = 2) (hown : s.vm.findClass RX4 = some m.cls) (hts : ∀ w ∈ tw, w.before args s = true) (hK : va_K D vwCl [(cI, .int), (cJ, .long)] s) (hA : ∀ q, s.heap.size ≤ q → A q) (hR : 0 ≤ R.frames ∧ 0 ≤ R.locals ∧ cells ≤ R.cells ∧ slots ≤ R.slots) (hm : mX4_append gsz gac a1 = some (r, y_gsz, y_gac)) (ls : Array Slot) (hl : lv_has ls 2 [(0, .ref oG), (1, .int a1)]) (hP : va_P D vwCl (wdG cI cJ oG oGa oS oSs oF oFr oFs oFc oFw gsz gac srim sst fw fc fwh fbo fra fst fco fro) H) (hD : va_D A (wdG cI cJ oG oGa oS oSs oF oFr oFs oFc oFw gsz gac srim sst fw fc fwh fbo fra fst fco fro)) (hS : va_S A s.heap H locs) (K : ∀ (pc : Nat) (ls : Array Slot) (H : Heap) (locs : List Loc), decode cX4_append pc = .ok (.ireturn, 1) → narrow .boolean (.int r) = .int r → va_P D vwCl (wdG cI cJ oG oGa oS oSs oF oFr oFs oFc oFw y_gsz y_gac srim sst fw fc fwh fbo fra fst fco fro) H → va_D A (wdG cI cJ oG oGa oS oSs oF oFr oFs oFc oFw y_gsz y_gac srim sst fw fc fwh fbo fra fst fco fro) → va_S A s.heap H locs → W p l e R s m args below meth c H locs cells slots Q (F0 m pc ls [.int r])) : W p l e R s m args below meth c H locs cells slots Q (F0 m 0 ls []) := by
  unfold mX4_append at hm
  refine lv_aload_n hx hb dX4_append_0 rfl (lv_at hl 0 rfl) ?_
  refine va_get (D := D) (ci := 4) (v := .int gsz) (C := RX4) (T := TX4) (N := 3) hx hb hts tnX4 hown hK hP 0 rfl rfl 2 (by decide) (hts _ qw_205) (fun _ h9 => h9) rfl dX4_append_1 ?_
  refine lv_bipush (v := (8 : Int32)) hx hb dX4_append_4 (by decide) ?_
  refine lv_icmp_lt (tgt := 11) hx hb dX4_append_6 (by decide) (fun c1 => ?_) (fun c1 => ?_)
  · rw [if_pos c1] at hm
    refine lv_aload_n hx hb dX4_append_11 rfl (lv_at hl 0 rfl) ?_
    refine va_get (D := D) (ci := 4) (v := .ref oGa) (C := RX4) (T := TX4) (N := 3) hx hb hts tnX4 hown hK hP 0 rfl rfl 1 (by decide) (hts _ qw_207) (fun _ h9 => h9) rfl dX4_append_12 ?_
    refine lv_aload_n hx hb dX4_append_15 rfl (lv_at hl 0 rfl) ?_
    refine va_get (D := D) (ci := 4) (v := .int gsz) (C := RX4) (T := TX4) (N := 3) hx hb hts tnX4 hown hK hP 0 rfl rfl 2 (by decide) (hts _ qw_205) (fun _ h9 => h9) rfl dX4_append_16 ?_
    refine lv_iload_n hx hb dX4_append_19 rfl (lv_at hl 1 rfl) ?_
    obtain ⟨g2, hm⟩ := gd_out hm
    refine va_iast hx hb hK hP hD hS 1 0 rfl rfl g2 dX4_append_20 (fun H locs hP hD hS => ?_)
    have hP : va_P D vwCl (wdG cI cJ oG oGa oS oSs oF oFr oFs oFc oFw gsz (upd gac gsz.toNatClampNeg a1) srim sst fw fc fwh fbo fra fst fco fro) H := hP
    have hD : va_D A (wdG cI cJ oG oGa oS oSs oF oFr oFs oFc oFw gsz (upd gac gsz.toNatClampNeg a1) srim sst fw fc fwh fbo fra fst fco fro) := hD
    refine lv_aload_n hx hb dX4_append_21 rfl (lv_at hl 0 rfl) ?_
    refine lv_dup hx hb dX4_append_22 rfl ?_
    refine va_get (D := D) (ci := 4) (v := .int gsz) (C := RX4) (T := TX4) (N := 3) hx hb hts tnX4 hown hK hP 0 rfl rfl 2 (by decide) (hts _ qw_205) (fun _ h9 => h9) rfl dX4_append_23 ?_
    refine lv_iconst (v := (1 : Int32)) hx hb dX4_append_26 (by decide) ?_
    refine lv_iadd hx hb dX4_append_27 ?_
    refine va_put (D := D) (ci := 4) (v := .int (gsz + (1 : Int32))) (ty := .int) (C := RX4) (T := TX4) (N := 3) hx hb hts tnX4 tyX4 tyX4_ok nmX4 hown hK hP hD hS 0 rfl rfl 2 (by decide) (hts _ qw_205) (fun _ h9 => h9) rfl (by decide +kernel) rfl rfl (Nat.le_of_ble_eq_true rfl) dX4_append_28 (fun H locs hP hD hS => ?_)
    have hP : va_P D vwCl (wdG cI cJ oG oGa oS oSs oF oFr oFs oFc oFw (gsz + (1 : Int32)) (upd gac gsz.toNatClampNeg a1) srim sst fw fc fwh fbo fra fst fco fro) H := hP
    have hD : va_D A (wdG cI cJ oG oGa oS oSs oF oFr oFs oFc oFw (gsz + (1 : Int32)) (upd gac gsz.toNatClampNeg a1) srim sst fw fc fwh fbo fra fst fco fro) := hD
    refine lv_iconst (v := (1 : Int32)) hx hb dX4_append_31 (by decide) ?_
    have hm := Option.some.inj hm
    have e9 : r = (1 : Int32) := (congrArg (fun q => q.1) hm).symm
    rw [e9] at K
    have e9 : y_gsz = (gsz + (1 : Int32)) := (congrArg (fun q => q.2.1) hm).symm
    rw [e9] at K
    have e9 : y_gac = (upd gac gsz.toNatClampNeg a1) := (congrArg (fun q => q.2.2) hm).symm
    rw [e9] at K
    exact K 32 ls _ _ dX4_append_32 rfl hP hD hS
  · rw [if_neg c1] at hm
    refine lv_iconst (v := (0 : Int32)) hx hb dX4_append_9 (by decide) ?_
    have hm := Option.some.inj hm
    have e9 : r = (0 : Int32) := (congrArg (fun q => q.1) hm).symm
    rw [e9] at K
    have e9 : y_gsz = gsz := (congrArg (fun q => q.2.1) hm).symm
    rw [e9] at K
    have e9 : y_gac = gac := (congrArg (fun q => q.2.2) hm).symm
    rw [e9] at K
    exact K 10 ls _ _ dX4_append_10 rfl hP hD hS
set_option maxHeartbeats 4000000 in
set_option maxRecDepth 100000 in
theorem tX4_append (l : Launch) {D : va_G} (sz : Nat) {a1 : Int32} {r : Int32} {y_gsz : (Int32)} {y_gac : (Nat → Int32)} (hm : mX4_append gsz gac a1 = some (r, y_gsz, y_gac)) : Met l yX4_append (.code yX4_append cX4_append 2 (some .boolean) :: tw) ({ frames := 0, cells := 0, slots := 0, locals := 0 } : Room) (wrP D [.ref oG, .int a1] (wdG cI cJ oG oGa oS oSs oF oFr oFs oFc oFw gsz gac srim sst fw fc fwh fbo fra fst fco fro) [(cI, .int), (cJ, .long)] sz) (va_Qi (fun q (_ : Unit) => q = r ∧ narrow .boolean (.int q) = .int q) (fun (_ : Unit) (t : State) => va_P D vwCl (wdG cI cJ oG oGa oS oSs oF oFr oFs oFc oFw y_gsz y_gac srim sst fw fc fwh fbo fra fst fco fro) t.heap ∧ va_K D vwCl [(cI, .int), (cJ, .long)] t ∧ va_D (va_A (wdG cI cJ oG oGa oS oSs oF oFr oFs oFc oFw gsz gac srim sst fw fc fwh fbo fra fst fco fro) sz) (wdG cI cJ oG oGa oS oSs oF oFr oFs oFc oFw y_gsz y_gac srim sst fw fc fwh fbo fra fst fco fro)) (va_A (wdG cI cJ oG oGa oS oSs oF oFr oFs oFc oFw gsz gac srim sst fw fc fwh fbo fra fst fco fro) sz)) 0 0 (va_A (wdG cI cJ oG oGa oS oSs oF oFr oFs oFc oFw gsz gac srim sst fw fc fwh fbo fra fst fco fro) sz) := by
  refine Met.ofW (cc := cX4_append) (maxL := 2) (ret := (some .boolean)) (by decide) rfl ?_
  intro p e s m args below meth c s₁ B hml hv
  obtain ⟨rfl, hsz, hP, hK, hD0⟩ := hv
  have hx := B.exec
  have hb := B.bytes
  have hr := B.returns
  have hts : ∀ w ∈ tw, w.before _ s = true := fun w h => atoms_spec (ws := .code yX4_append cX4_append 2 (some .boolean) :: tw) B.pre w (List.mem_cons_of_mem _ h)
  have hown : s.vm.findClass RX4 = some m.cls := findClass_of_methodNamed B.named
  have hlocks := B.notSynchronized
  subst hsz
  have hD := hD0.self (sz := s.heap.size)
  have hl := lv_entry ([.ref oG, .int a1]) (n := 2) (Nat.le_of_ble_eq_true rfl)
  rw [lg_entry_eq]
  generalize (lg_sl ([.ref oG, .int a1]) ++ List.replicate (2 - (lg_sl ([.ref oG, .int a1])).length) Slot.unset).toArray = ls at hl ⊢
  refine bX4_append hx hb hml hown hts hK (fun q h => Or.inr h) ⟨Nat.le_of_ble_eq_true rfl, Nat.le_of_ble_eq_true rfl, Nat.zero_le _, Nat.zero_le _⟩ hm ls hl hP hD va_S.rf (fun pc ls H locs hd hz hP hD hS => ?_)
  exact W.zret hx hb hr hz (fun t ht hW => ⟨⟨r, (), rfl, ⟨rfl, hz⟩, by rw [ht]; exact hP, va_K.moved hW.alike hK, hD⟩, hS.F ht⟩) hS.2.2 hd
set_option maxHeartbeats 4000000 in
set_option maxRecDepth 100000 in
theorem kX4_append {own : String} {cc : ByteArray} {nL idx pc : Nat} {ls : Array Slot} {rest : List Value} {ws wr : va_W} {a1 : Int32} {r : Int32} {y_gsz : (Int32)} {y_gac : (Nat → Int32)} (fx : CallFix p m c cc nL s args tw own) (hq : Cond.methodLink own idx yX4_append ∈ tw) (isC isR : List Nat) (hC : isC.map (fun i => ws[i]?) = ((wdG cI cJ oG oGa oS oSs oF oFr oFs oFc oFw gsz gac srim sst fw fc fwh fbo fra fst fco fro) : va_W).map some) (hRr : isR.map (fun i => ws[i]?) = wr.map some) (hnC : va_nd isC = true) (hn : va_nd isR = true) (hdis : ∀ i ∈ isR, i ∉ isC) (hK : va_K D vwCl [(cI, .int), (cJ, .long)] s) (hm : mX4_append gsz gac a1 = some (r, y_gsz, y_gac)) (hsz : ls.size = nL) (hR : 1 ≤ R.frames ∧ 21 ≤ R.locals ∧ cells ≤ R.cells ∧ slots ≤ R.slots) (hst : (rest.map fun v => v.category).sum ≤ 8) (hd : decode cc pc = .ok (.invokevirtual idx, 3)) (hP : va_P D vwCl ws H) (hD : va_D A ws) (hS : va_S A s.heap H locs) (hA : ∀ q, s.heap.size ≤ q → A q) (kk : ∀ (H : Heap) (locs : List Loc), va_P D vwCl (wr ++ (wdG cI cJ oG oGa oS oSs oF oFr oFs oFc oFw y_gsz y_gac srim sst fw fc fwh fbo fra fst fco fro)) H → va_D A (wr ++ (wdG cI cJ oG oGa oS oSs oF oFr oFs oFc oFw y_gsz y_gac srim sst fw fc fwh fbo fra fst fco fro)) → va_S A s.heap H locs → W p l e R s m args below meth c H locs cells slots Q (F0 m (pc + 3) ls (.int r :: rest))) : W p l e R s m args below meth c H locs cells slots Q (F0 m pc ls (.int a1 :: .ref oG :: rest)) := by
  have hPc := va_P.subM hP isC hC
  have hDc := hD.sub isC hnC hC
  have hFc := va_free (wc := (wdG cI cJ oG oGa oS oSs oF oFr oFs oFc oFw gsz gac srim sst fw fc fwh fbo fra fst fco fro)) hD hS hA isC hC
  refine va_calli (va_runV (As := [.int a1]) (rest := rest) fx (tX4_append l H.size hm) (cwV 1 fx.2.2.2.2 (tw_V hq qw_372 qw_373 qw_211 qw_374) rfl rfl rfl (by decide +kernel) ⟨hR.1, hR.2.1⟩) ⟨wrP_bl, va_recv hK hPc (ci := 4) (q0 := 0) rfl rfl, wrP_ok hPc hK hDc⟩ rfl rfl hsz rfl (lv_room hst) hd ⟨hR.2.2.1, hR.2.2.2⟩) hS (fun q _ h => hFc q h) hFc (fun r9 u t H1 locs ht hvm hw hB hz1 hk1 hS => ?_)
  obtain ⟨hP1, hK1, hD1⟩ := hB
  rw [ht] at hP1
  rw [hw.1]
  obtain ⟨hP2, hD2⟩ := va_join (wr := wr) (w1 := (wdG cI cJ oG oGa oS oSs oF oFr oFs oFc oFw y_gsz y_gac srim sst fw fc fwh fbo fra fst fco fro)) hP hD isC isR hC hRr hn hdis hk1 hFc hP1 hD1
  exact kk H1 locs hP2 hD2 hS
-- X2_append
def mX2_append (rsz : Int32) (rhi : Nat → Int32) (rmi : Nat → Int32) (a1 : Int32) (a2 : Int32) : Option (Int32 × (Int32) × (Nat → Int32) × (Nat → Int32)) :=
  (if rsz < (8 : Int32) then gd (ib rsz 8) (gd (ib rsz 8) ((some ((1 : Int32), (rsz + (1 : Int32)), (upd rhi rsz.toNatClampNeg a1), (upd rmi rsz.toNatClampNeg a2))))) else (some ((0 : Int32), rsz, rhi, rmi)))
theorem dX2_append_0 : decode cX2_append 0 = .ok (.aload_n 0, 1) := by decide +kernel
theorem dX2_append_1 : decode cX2_append 1 = .ok (.getfield 16, 3) := by decide +kernel
theorem dX2_append_4 : decode cX2_append 4 = .ok (.bipush 8, 2) := by decide +kernel
theorem dX2_append_6 : decode cX2_append 6 = .ok (.if_icmp .lt 5, 3) := by decide +kernel
theorem dX2_append_9 : decode cX2_append 9 = .ok (.iconst 0, 1) := by decide +kernel
theorem dX2_append_10 : decode cX2_append 10 = .ok (.ireturn, 1) := by decide +kernel
theorem dX2_append_11 : decode cX2_append 11 = .ok (.aload_n 0, 1) := by decide +kernel
theorem dX2_append_12 : decode cX2_append 12 = .ok (.getfield 9, 3) := by decide +kernel
theorem dX2_append_15 : decode cX2_append 15 = .ok (.aload_n 0, 1) := by decide +kernel
theorem dX2_append_16 : decode cX2_append 16 = .ok (.getfield 16, 3) := by decide +kernel
theorem dX2_append_19 : decode cX2_append 19 = .ok (.iload_n 1, 1) := by decide +kernel
theorem dX2_append_20 : decode cX2_append 20 = .ok (.iastore, 1) := by decide +kernel
theorem dX2_append_21 : decode cX2_append 21 = .ok (.aload_n 0, 1) := by decide +kernel
theorem dX2_append_22 : decode cX2_append 22 = .ok (.getfield 13, 3) := by decide +kernel
theorem dX2_append_25 : decode cX2_append 25 = .ok (.aload_n 0, 1) := by decide +kernel
theorem dX2_append_26 : decode cX2_append 26 = .ok (.getfield 16, 3) := by decide +kernel
theorem dX2_append_29 : decode cX2_append 29 = .ok (.iload_n 2, 1) := by decide +kernel
theorem dX2_append_30 : decode cX2_append 30 = .ok (.iastore, 1) := by decide +kernel
theorem dX2_append_31 : decode cX2_append 31 = .ok (.aload_n 0, 1) := by decide +kernel
theorem dX2_append_32 : decode cX2_append 32 = .ok (.dup, 1) := by decide +kernel
theorem dX2_append_33 : decode cX2_append 33 = .ok (.getfield 16, 3) := by decide +kernel
theorem dX2_append_36 : decode cX2_append 36 = .ok (.iconst 1, 1) := by decide +kernel
theorem dX2_append_37 : decode cX2_append 37 = .ok (.iadd, 1) := by decide +kernel
theorem dX2_append_38 : decode cX2_append 38 = .ok (.putfield 16, 3) := by decide +kernel
theorem dX2_append_41 : decode cX2_append 41 = .ok (.iconst 1, 1) := by decide +kernel
theorem dX2_append_42 : decode cX2_append 42 = .ok (.ireturn, 1) := by decide +kernel
set_option maxHeartbeats 4000000 in
set_option maxRecDepth 100000 in
theorem bX2_append {a1 : Int32} {a2 : Int32} {r : Int32} {y_rsz : (Int32)} {y_rhi : (Nat → Int32)} {y_rmi : (Nat → Int32)} (hx : p.tables.exec = Jvm.exec) (hb : c.code = cX2_append) (hml : c.maxLocals = 3) (hown : s.vm.findClass RX2 = some m.cls) (hts : ∀ w ∈ tw, w.before args s = true) (hK : va_K D vwCl [(cI, .int), (cJ, .long)] s) (hA : ∀ q, s.heap.size ≤ q → A q) (hR : 0 ≤ R.frames ∧ 0 ≤ R.locals ∧ cells ≤ R.cells ∧ slots ≤ R.slots) (hm : mX2_append rsz rhi rmi a1 a2 = some (r, y_rsz, y_rhi, y_rmi)) (ls : Array Slot) (hl : lv_has ls 3 [(0, .ref oR), (1, .int a1), (2, .int a2)]) (hP : va_P D vwCl (wdR cI cJ oR oRh oRm oS oSs oF oFr oFs oFc oFw rsz rhi rmi srim sst fw fc fwh fbo fra fst fco fro) H) (hD : va_D A (wdR cI cJ oR oRh oRm oS oSs oF oFr oFs oFc oFw rsz rhi rmi srim sst fw fc fwh fbo fra fst fco fro)) (hS : va_S A s.heap H locs) (K : ∀ (pc : Nat) (ls : Array Slot) (H : Heap) (locs : List Loc), decode cX2_append pc = .ok (.ireturn, 1) → narrow .boolean (.int r) = .int r → va_P D vwCl (wdR cI cJ oR oRh oRm oS oSs oF oFr oFs oFc oFw y_rsz y_rhi y_rmi srim sst fw fc fwh fbo fra fst fco fro) H → va_D A (wdR cI cJ oR oRh oRm oS oSs oF oFr oFs oFc oFw y_rsz y_rhi y_rmi srim sst fw fc fwh fbo fra fst fco fro) → va_S A s.heap H locs → W p l e R s m args below meth c H locs cells slots Q (F0 m pc ls [.int r])) : W p l e R s m args below meth c H locs cells slots Q (F0 m 0 ls []) := by
  unfold mX2_append at hm
  refine lv_aload_n hx hb dX2_append_0 rfl (lv_at hl 0 rfl) ?_
  refine va_get (D := D) (ci := 2) (v := .int rsz) (C := RX2) (T := TX2) (N := 5) hx hb hts tnX2 hown hK hP 0 rfl rfl 4 (by decide) (hts _ qw_257) (fun _ h9 => h9) rfl dX2_append_1 ?_
  refine lv_bipush (v := (8 : Int32)) hx hb dX2_append_4 (by decide) ?_
  refine lv_icmp_lt (tgt := 11) hx hb dX2_append_6 (by decide) (fun c1 => ?_) (fun c1 => ?_)
  · rw [if_pos c1] at hm
    refine lv_aload_n hx hb dX2_append_11 rfl (lv_at hl 0 rfl) ?_
    refine va_get (D := D) (ci := 2) (v := .ref oRh) (C := RX2) (T := TX2) (N := 5) hx hb hts tnX2 hown hK hP 0 rfl rfl 2 (by decide) (hts _ qw_248) (fun _ h9 => h9) rfl dX2_append_12 ?_
    refine lv_aload_n hx hb dX2_append_15 rfl (lv_at hl 0 rfl) ?_
    refine va_get (D := D) (ci := 2) (v := .int rsz) (C := RX2) (T := TX2) (N := 5) hx hb hts tnX2 hown hK hP 0 rfl rfl 4 (by decide) (hts _ qw_257) (fun _ h9 => h9) rfl dX2_append_16 ?_
    refine lv_iload_n hx hb dX2_append_19 rfl (lv_at hl 1 rfl) ?_
    obtain ⟨g2, hm⟩ := gd_out hm
    refine va_iast hx hb hK hP hD hS 1 0 rfl rfl g2 dX2_append_20 (fun H locs hP hD hS => ?_)
    have hP : va_P D vwCl (wdR cI cJ oR oRh oRm oS oSs oF oFr oFs oFc oFw rsz (upd rhi rsz.toNatClampNeg a1) rmi srim sst fw fc fwh fbo fra fst fco fro) H := hP
    have hD : va_D A (wdR cI cJ oR oRh oRm oS oSs oF oFr oFs oFc oFw rsz (upd rhi rsz.toNatClampNeg a1) rmi srim sst fw fc fwh fbo fra fst fco fro) := hD
    refine lv_aload_n hx hb dX2_append_21 rfl (lv_at hl 0 rfl) ?_
    refine va_get (D := D) (ci := 2) (v := .ref oRm) (C := RX2) (T := TX2) (N := 5) hx hb hts tnX2 hown hK hP 0 rfl rfl 3 (by decide) (hts _ qw_249) (fun _ h9 => h9) rfl dX2_append_22 ?_
    refine lv_aload_n hx hb dX2_append_25 rfl (lv_at hl 0 rfl) ?_
    refine va_get (D := D) (ci := 2) (v := .int rsz) (C := RX2) (T := TX2) (N := 5) hx hb hts tnX2 hown hK hP 0 rfl rfl 4 (by decide) (hts _ qw_257) (fun _ h9 => h9) rfl dX2_append_26 ?_
    refine lv_iload_n hx hb dX2_append_29 rfl (lv_at hl 2 rfl) ?_
    obtain ⟨g3, hm⟩ := gd_out hm
    refine va_iast hx hb hK hP hD hS 2 0 rfl rfl g3 dX2_append_30 (fun H locs hP hD hS => ?_)
    have hP : va_P D vwCl (wdR cI cJ oR oRh oRm oS oSs oF oFr oFs oFc oFw rsz (upd rhi rsz.toNatClampNeg a1) (upd rmi rsz.toNatClampNeg a2) srim sst fw fc fwh fbo fra fst fco fro) H := hP
    have hD : va_D A (wdR cI cJ oR oRh oRm oS oSs oF oFr oFs oFc oFw rsz (upd rhi rsz.toNatClampNeg a1) (upd rmi rsz.toNatClampNeg a2) srim sst fw fc fwh fbo fra fst fco fro) := hD
    refine lv_aload_n hx hb dX2_append_31 rfl (lv_at hl 0 rfl) ?_
    refine lv_dup hx hb dX2_append_32 rfl ?_
    refine va_get (D := D) (ci := 2) (v := .int rsz) (C := RX2) (T := TX2) (N := 5) hx hb hts tnX2 hown hK hP 0 rfl rfl 4 (by decide) (hts _ qw_257) (fun _ h9 => h9) rfl dX2_append_33 ?_
    refine lv_iconst (v := (1 : Int32)) hx hb dX2_append_36 (by decide) ?_
    refine lv_iadd hx hb dX2_append_37 ?_
    refine va_put (D := D) (ci := 2) (v := .int (rsz + (1 : Int32))) (ty := .int) (C := RX2) (T := TX2) (N := 5) hx hb hts tnX2 tyX2 tyX2_ok nmX2 hown hK hP hD hS 0 rfl rfl 4 (by decide) (hts _ qw_257) (fun _ h9 => h9) rfl (by decide +kernel) rfl rfl (Nat.le_of_ble_eq_true rfl) dX2_append_38 (fun H locs hP hD hS => ?_)
    have hP : va_P D vwCl (wdR cI cJ oR oRh oRm oS oSs oF oFr oFs oFc oFw (rsz + (1 : Int32)) (upd rhi rsz.toNatClampNeg a1) (upd rmi rsz.toNatClampNeg a2) srim sst fw fc fwh fbo fra fst fco fro) H := hP
    have hD : va_D A (wdR cI cJ oR oRh oRm oS oSs oF oFr oFs oFc oFw (rsz + (1 : Int32)) (upd rhi rsz.toNatClampNeg a1) (upd rmi rsz.toNatClampNeg a2) srim sst fw fc fwh fbo fra fst fco fro) := hD
    refine lv_iconst (v := (1 : Int32)) hx hb dX2_append_41 (by decide) ?_
    have hm := Option.some.inj hm
    have e9 : r = (1 : Int32) := (congrArg (fun q => q.1) hm).symm
    rw [e9] at K
    have e9 : y_rsz = (rsz + (1 : Int32)) := (congrArg (fun q => q.2.1) hm).symm
    rw [e9] at K
    have e9 : y_rhi = (upd rhi rsz.toNatClampNeg a1) := (congrArg (fun q => q.2.2.1) hm).symm
    rw [e9] at K
    have e9 : y_rmi = (upd rmi rsz.toNatClampNeg a2) := (congrArg (fun q => q.2.2.2) hm).symm
    rw [e9] at K
    exact K 42 ls _ _ dX2_append_42 rfl hP hD hS
  · rw [if_neg c1] at hm
    refine lv_iconst (v := (0 : Int32)) hx hb dX2_append_9 (by decide) ?_
    have hm := Option.some.inj hm
    have e9 : r = (0 : Int32) := (congrArg (fun q => q.1) hm).symm
    rw [e9] at K
    have e9 : y_rsz = rsz := (congrArg (fun q => q.2.1) hm).symm
    rw [e9] at K
    have e9 : y_rhi = rhi := (congrArg (fun q => q.2.2.1) hm).symm
    rw [e9] at K
    have e9 : y_rmi = rmi := (congrArg (fun q => q.2.2.2) hm).symm
    rw [e9] at K
    exact K 10 ls _ _ dX2_append_10 rfl hP hD hS
set_option maxHeartbeats 4000000 in
set_option maxRecDepth 100000 in
theorem tX2_append (l : Launch) {D : va_G} (sz : Nat) {a1 : Int32} {a2 : Int32} {r : Int32} {y_rsz : (Int32)} {y_rhi : (Nat → Int32)} {y_rmi : (Nat → Int32)} (hm : mX2_append rsz rhi rmi a1 a2 = some (r, y_rsz, y_rhi, y_rmi)) : Met l yX2_append (.code yX2_append cX2_append 3 (some .boolean) :: tw) ({ frames := 0, cells := 0, slots := 0, locals := 0 } : Room) (wrP D [.ref oR, .int a1, .int a2] (wdR cI cJ oR oRh oRm oS oSs oF oFr oFs oFc oFw rsz rhi rmi srim sst fw fc fwh fbo fra fst fco fro) [(cI, .int), (cJ, .long)] sz) (va_Qi (fun q (_ : Unit) => q = r ∧ narrow .boolean (.int q) = .int q) (fun (_ : Unit) (t : State) => va_P D vwCl (wdR cI cJ oR oRh oRm oS oSs oF oFr oFs oFc oFw y_rsz y_rhi y_rmi srim sst fw fc fwh fbo fra fst fco fro) t.heap ∧ va_K D vwCl [(cI, .int), (cJ, .long)] t ∧ va_D (va_A (wdR cI cJ oR oRh oRm oS oSs oF oFr oFs oFc oFw rsz rhi rmi srim sst fw fc fwh fbo fra fst fco fro) sz) (wdR cI cJ oR oRh oRm oS oSs oF oFr oFs oFc oFw y_rsz y_rhi y_rmi srim sst fw fc fwh fbo fra fst fco fro)) (va_A (wdR cI cJ oR oRh oRm oS oSs oF oFr oFs oFc oFw rsz rhi rmi srim sst fw fc fwh fbo fra fst fco fro) sz)) 0 0 (va_A (wdR cI cJ oR oRh oRm oS oSs oF oFr oFs oFc oFw rsz rhi rmi srim sst fw fc fwh fbo fra fst fco fro) sz) := by
  refine Met.ofW (cc := cX2_append) (maxL := 3) (ret := (some .boolean)) (by decide) rfl ?_
  intro p e s m args below meth c s₁ B hml hv
  obtain ⟨rfl, hsz, hP, hK, hD0⟩ := hv
  have hx := B.exec
  have hb := B.bytes
  have hr := B.returns
  have hts : ∀ w ∈ tw, w.before _ s = true := fun w h => atoms_spec (ws := .code yX2_append cX2_append 3 (some .boolean) :: tw) B.pre w (List.mem_cons_of_mem _ h)
  have hown : s.vm.findClass RX2 = some m.cls := findClass_of_methodNamed B.named
  have hlocks := B.notSynchronized
  subst hsz
  have hD := hD0.self (sz := s.heap.size)
  have hl := lv_entry ([.ref oR, .int a1, .int a2]) (n := 3) (Nat.le_of_ble_eq_true rfl)
  rw [lg_entry_eq]
  generalize (lg_sl ([.ref oR, .int a1, .int a2]) ++ List.replicate (3 - (lg_sl ([.ref oR, .int a1, .int a2])).length) Slot.unset).toArray = ls at hl ⊢
  refine bX2_append hx hb hml hown hts hK (fun q h => Or.inr h) ⟨Nat.le_of_ble_eq_true rfl, Nat.le_of_ble_eq_true rfl, Nat.zero_le _, Nat.zero_le _⟩ hm ls hl hP hD va_S.rf (fun pc ls H locs hd hz hP hD hS => ?_)
  exact W.zret hx hb hr hz (fun t ht hW => ⟨⟨r, (), rfl, ⟨rfl, hz⟩, by rw [ht]; exact hP, va_K.moved hW.alike hK, hD⟩, hS.F ht⟩) hS.2.2 hd
set_option maxHeartbeats 4000000 in
set_option maxRecDepth 100000 in
theorem kX2_append {own : String} {cc : ByteArray} {nL idx pc : Nat} {ls : Array Slot} {rest : List Value} {ws wr : va_W} {a1 : Int32} {a2 : Int32} {r : Int32} {y_rsz : (Int32)} {y_rhi : (Nat → Int32)} {y_rmi : (Nat → Int32)} (fx : CallFix p m c cc nL s args tw own) (hq : Cond.methodLink own idx yX2_append ∈ tw) (isC isR : List Nat) (hC : isC.map (fun i => ws[i]?) = ((wdR cI cJ oR oRh oRm oS oSs oF oFr oFs oFc oFw rsz rhi rmi srim sst fw fc fwh fbo fra fst fco fro) : va_W).map some) (hRr : isR.map (fun i => ws[i]?) = wr.map some) (hnC : va_nd isC = true) (hn : va_nd isR = true) (hdis : ∀ i ∈ isR, i ∉ isC) (hK : va_K D vwCl [(cI, .int), (cJ, .long)] s) (hm : mX2_append rsz rhi rmi a1 a2 = some (r, y_rsz, y_rhi, y_rmi)) (hsz : ls.size = nL) (hR : 1 ≤ R.frames ∧ 22 ≤ R.locals ∧ cells ≤ R.cells ∧ slots ≤ R.slots) (hst : (rest.map fun v => v.category).sum ≤ 8) (hd : decode cc pc = .ok (.invokevirtual idx, 3)) (hP : va_P D vwCl ws H) (hD : va_D A ws) (hS : va_S A s.heap H locs) (hA : ∀ q, s.heap.size ≤ q → A q) (kk : ∀ (H : Heap) (locs : List Loc), va_P D vwCl (wr ++ (wdR cI cJ oR oRh oRm oS oSs oF oFr oFs oFc oFw y_rsz y_rhi y_rmi srim sst fw fc fwh fbo fra fst fco fro)) H → va_D A (wr ++ (wdR cI cJ oR oRh oRm oS oSs oF oFr oFs oFc oFw y_rsz y_rhi y_rmi srim sst fw fc fwh fbo fra fst fco fro)) → va_S A s.heap H locs → W p l e R s m args below meth c H locs cells slots Q (F0 m (pc + 3) ls (.int r :: rest))) : W p l e R s m args below meth c H locs cells slots Q (F0 m pc ls (.int a2 :: .int a1 :: .ref oR :: rest)) := by
  have hPc := va_P.subM hP isC hC
  have hDc := hD.sub isC hnC hC
  have hFc := va_free (wc := (wdR cI cJ oR oRh oRm oS oSs oF oFr oFs oFc oFw rsz rhi rmi srim sst fw fc fwh fbo fra fst fco fro)) hD hS hA isC hC
  refine va_calli (va_runV (As := [.int a1, .int a2]) (rest := rest) fx (tX2_append l H.size hm) (cwV 2 fx.2.2.2.2 (tw_V hq qw_375 qw_376 qw_255 qw_377) rfl rfl rfl (by decide +kernel) ⟨hR.1, hR.2.1⟩) ⟨wrP_bl, va_recv hK hPc (ci := 2) (q0 := 0) rfl rfl, wrP_ok hPc hK hDc⟩ rfl rfl hsz rfl (lv_room hst) hd ⟨hR.2.2.1, hR.2.2.2⟩) hS (fun q _ h => hFc q h) hFc (fun r9 u t H1 locs ht hvm hw hB hz1 hk1 hS => ?_)
  obtain ⟨hP1, hK1, hD1⟩ := hB
  rw [ht] at hP1
  rw [hw.1]
  obtain ⟨hP2, hD2⟩ := va_join (wr := wr) (w1 := (wdR cI cJ oR oRh oRm oS oSs oF oFr oFs oFc oFw y_rsz y_rhi y_rmi srim sst fw fc fwh fbo fra fst fco fro)) hP hD isC isR hC hRr hn hdis hk1 hFc hP1 hD1
  exact kk H1 locs hP2 hD2 hS
-- X0_findGreatest
def mX0_findGreatest_L21 (n : Nat) (fc : Int32) (fco : Nat → Int32) (fro : Nat → Int32) (fw : Int32) (v3 : Int32) (v1 : Int64) : Nat → (Int32) → (Int32) → (Int32) → (Int32) → Option ((Int32) × (Int32) × (Int32))
  | 0, _, _, _, _ => none
  | k + 1, v4, bfi, bla, bar => (if fc ≤ v4 then some ((bfi, bla, bar)) else jb (mX0_between n fco fro fw v3 v4 v1) (fun (r5 : Int64) => jb3 (if (mJ13_bitCount_95d88 r5) ≤ bar then (some (bfi, bla, bar)) else (some (v3, v4, (mJ13_bitCount_95d88 r5)))) (fun (j8 : Int32) (j9 : Int32) (j10 : Int32) => mX0_findGreatest_L21 n fc fco fro fw v3 v1 k (v4 + (1 : Int32)) j8 j9 j10)))
def mX0_findGreatest_L7 (n : Nat) (fc : Int32) (fco : Nat → Int32) (fro : Nat → Int32) (fw : Int32) (v1 : Int64) : Nat → (Int32) → (Int32) → (Int32) → (Int32) → Option ((Int32) × (Int32) × (Int32))
  | 0, _, _, _, _ => none
  | k + 1, v3, bfi, bla, bar => (if fc ≤ v3 then some ((bfi, bla, bar)) else jb3 (mX0_findGreatest_L21 n fc fco fro fw v3 v1 n v3 bfi bla bar) (fun (y14 : Int32) (y15 : Int32) (y16 : Int32) => mX0_findGreatest_L7 n fc fco fro fw v1 k (v3 + (1 : Int32)) y14 y15 y16))
def mX0_findGreatest (n : Nat) (fc : Int32) (fco : Nat → Int32) (fro : Nat → Int32) (fw : Int32) (bfi : Int32) (bla : Int32) (a1 : Int64) : Option (Int32 × (Int32) × (Int32) × (Int32)) :=
  jb3 (mX0_findGreatest_L7 n fc fco fro fw a1 n (0 : Int32) bfi bla (0 : Int32)) (fun (y18 : Int32) (y19 : Int32) (y20 : Int32) => (if y20 ≤ 0 then (some ((0 : Int32), y18, y19, y20)) else (some ((1 : Int32), y18, y19, y20))))
theorem dX0_findGreatest_0 : decode cX0_findGreatest 0 = .ok (.aload_n 0, 1) := by decide +kernel
theorem dX0_findGreatest_1 : decode cX0_findGreatest 1 = .ok (.iconst 0, 1) := by decide +kernel
theorem dX0_findGreatest_2 : decode cX0_findGreatest 2 = .ok (.putfield 25, 3) := by decide +kernel
theorem dX0_findGreatest_5 : decode cX0_findGreatest 5 = .ok (.iconst 0, 1) := by decide +kernel
theorem dX0_findGreatest_6 : decode cX0_findGreatest 6 = .ok (.istore_n 3, 1) := by decide +kernel
theorem dX0_findGreatest_7 : decode cX0_findGreatest 7 = .ok (.iload_n 3, 1) := by decide +kernel
theorem dX0_findGreatest_8 : decode cX0_findGreatest 8 = .ok (.aload_n 0, 1) := by decide +kernel
theorem dX0_findGreatest_9 : decode cX0_findGreatest 9 = .ok (.getfield 28, 3) := by decide +kernel
theorem dX0_findGreatest_12 : decode cX0_findGreatest 12 = .ok (.getfield 40, 3) := by decide +kernel
theorem dX0_findGreatest_15 : decode cX0_findGreatest 15 = .ok (.if_icmp .ge 69, 3) := by decide +kernel
theorem dX0_findGreatest_18 : decode cX0_findGreatest 18 = .ok (.iload_n 3, 1) := by decide +kernel
theorem dX0_findGreatest_19 : decode cX0_findGreatest 19 = .ok (.istore 4, 2) := by decide +kernel
theorem dX0_findGreatest_21 : decode cX0_findGreatest 21 = .ok (.iload 4, 2) := by decide +kernel
theorem dX0_findGreatest_23 : decode cX0_findGreatest 23 = .ok (.aload_n 0, 1) := by decide +kernel
theorem dX0_findGreatest_24 : decode cX0_findGreatest 24 = .ok (.getfield 28, 3) := by decide +kernel
theorem dX0_findGreatest_27 : decode cX0_findGreatest 27 = .ok (.getfield 40, 3) := by decide +kernel
theorem dX0_findGreatest_30 : decode cX0_findGreatest 30 = .ok (.if_icmp .ge 48, 3) := by decide +kernel
theorem dX0_findGreatest_33 : decode cX0_findGreatest 33 = .ok (.aload_n 0, 1) := by decide +kernel
theorem dX0_findGreatest_34 : decode cX0_findGreatest 34 = .ok (.iload_n 3, 1) := by decide +kernel
theorem dX0_findGreatest_35 : decode cX0_findGreatest 35 = .ok (.iload 4, 2) := by decide +kernel
theorem dX0_findGreatest_37 : decode cX0_findGreatest 37 = .ok (.lload_n 1, 1) := by decide +kernel
theorem dX0_findGreatest_38 : decode cX0_findGreatest 38 = .ok (.invokevirtual 43, 3) := by decide +kernel
theorem dX0_findGreatest_41 : decode cX0_findGreatest 41 = .ok (.invokestatic 51, 3) := by decide +kernel
theorem dX0_findGreatest_44 : decode cX0_findGreatest 44 = .ok (.istore 5, 2) := by decide +kernel
theorem dX0_findGreatest_46 : decode cX0_findGreatest 46 = .ok (.iload 5, 2) := by decide +kernel
theorem dX0_findGreatest_48 : decode cX0_findGreatest 48 = .ok (.aload_n 0, 1) := by decide +kernel
theorem dX0_findGreatest_49 : decode cX0_findGreatest 49 = .ok (.getfield 25, 3) := by decide +kernel
theorem dX0_findGreatest_52 : decode cX0_findGreatest 52 = .ok (.if_icmp .le 20, 3) := by decide +kernel
theorem dX0_findGreatest_55 : decode cX0_findGreatest 55 = .ok (.aload_n 0, 1) := by decide +kernel
theorem dX0_findGreatest_56 : decode cX0_findGreatest 56 = .ok (.iload_n 3, 1) := by decide +kernel
theorem dX0_findGreatest_57 : decode cX0_findGreatest 57 = .ok (.putfield 19, 3) := by decide +kernel
theorem dX0_findGreatest_60 : decode cX0_findGreatest 60 = .ok (.aload_n 0, 1) := by decide +kernel
theorem dX0_findGreatest_61 : decode cX0_findGreatest 61 = .ok (.iload 4, 2) := by decide +kernel
theorem dX0_findGreatest_63 : decode cX0_findGreatest 63 = .ok (.putfield 22, 3) := by decide +kernel
theorem dX0_findGreatest_66 : decode cX0_findGreatest 66 = .ok (.aload_n 0, 1) := by decide +kernel
theorem dX0_findGreatest_67 : decode cX0_findGreatest 67 = .ok (.iload 5, 2) := by decide +kernel
theorem dX0_findGreatest_69 : decode cX0_findGreatest 69 = .ok (.putfield 25, 3) := by decide +kernel
theorem dX0_findGreatest_72 : decode cX0_findGreatest 72 = .ok (.iinc 4 1, 3) := by decide +kernel
theorem dX0_findGreatest_75 : decode cX0_findGreatest 75 = .ok (.goto (-54), 3) := by decide +kernel
theorem dX0_findGreatest_78 : decode cX0_findGreatest 78 = .ok (.iinc 3 1, 3) := by decide +kernel
theorem dX0_findGreatest_81 : decode cX0_findGreatest 81 = .ok (.goto (-74), 3) := by decide +kernel
theorem dX0_findGreatest_84 : decode cX0_findGreatest 84 = .ok (.aload_n 0, 1) := by decide +kernel
theorem dX0_findGreatest_85 : decode cX0_findGreatest 85 = .ok (.getfield 25, 3) := by decide +kernel
theorem dX0_findGreatest_88 : decode cX0_findGreatest 88 = .ok (.ifCond .le 7, 3) := by decide +kernel
theorem dX0_findGreatest_91 : decode cX0_findGreatest 91 = .ok (.iconst 1, 1) := by decide +kernel
theorem dX0_findGreatest_92 : decode cX0_findGreatest 92 = .ok (.goto 4, 3) := by decide +kernel
theorem dX0_findGreatest_95 : decode cX0_findGreatest 95 = .ok (.iconst 0, 1) := by decide +kernel
theorem dX0_findGreatest_96 : decode cX0_findGreatest 96 = .ok (.ireturn, 1) := by decide +kernel
set_option maxHeartbeats 4000000 in
set_option maxRecDepth 100000 in
theorem wX0_findGreatest_L21 {n : Nat} {v1 : Int64} {v3 : Int32} (hx : p.tables.exec = Jvm.exec) (hb : c.code = cX0_findGreatest) (hml : c.maxLocals = 6) (hown : s.vm.findClass RX0 = some m.cls) (hts : ∀ w ∈ tw, w.before args s = true) (hK : va_K D vwCl [(cI, .int), (cJ, .long)] s) (hA : ∀ q, s.heap.size ≤ q → A q) (hR : 2 ≤ R.frames ∧ 55 ≤ R.locals ∧ cells ≤ R.cells ∧ slots ≤ R.slots) : ∀ (k : Nat) (v4 : Int32) (bfi : Int32) (bla : Int32) (bar : Int32) (x_bfi : Int32) (x_bla : Int32) (x_bar : Int32), mX0_findGreatest_L21 n fc fco fro fw v3 v1 k v4 bfi bla bar = some (x_bfi, x_bla, x_bar) → ∀ ls : Array Slot, lv_has ls 6 [(0, .ref oB), (1, .long v1), (3, .int v3), (4, .int v4)] → ∀ (H : Heap) (locs : List Loc), va_P D vwCl (wdB cJ cI oB oBw oF oFr oFs oFc oFw bsz bfi bla bar bwi fw fc fwh fbo fra fst fco fro) H → va_D A (wdB cJ cI oB oBw oF oFr oFs oFc oFw bsz bfi bla bar bwi fw fc fwh fbo fra fst fco fro) → va_S A s.heap H locs → (∀ ls : Array Slot, lv_has ls 6 [(0, .ref oB), (1, .long v1), (3, .int v3)] → ∀ (H : Heap) (locs : List Loc), va_P D vwCl (wdB cJ cI oB oBw oF oFr oFs oFc oFw bsz x_bfi x_bla x_bar bwi fw fc fwh fbo fra fst fco fro) H → va_D A (wdB cJ cI oB oBw oF oFr oFs oFc oFw bsz x_bfi x_bla x_bar bwi fw fc fwh fbo fra fst fco fro) → va_S A s.heap H locs → W p l e R s m args below meth c H locs cells slots Q (F0 m 78 ls [])) → W p l e R s m args below meth c H locs cells slots Q (F0 m 21 ls []) := by
  intro k
  induction k with
  | zero => intro v4 bfi bla bar x_bfi x_bla x_bar hm; rw [mX0_findGreatest_L21] at hm; cases hm
  | succ k ih =>
    intro v4 bfi bla bar x_bfi x_bla x_bar hm ls hl H locs hP hD hS K0
    rw [mX0_findGreatest_L21] at hm
    refine lv_iload hx hb dX0_findGreatest_21 (lv_at hl 3 rfl) ?_
    refine lv_aload_n hx hb dX0_findGreatest_23 rfl (lv_at hl 0 rfl) ?_
    refine va_get (D := D) (ci := 0) (v := .ref oF) (C := RX0) (T := TX0) (N := 6) hx hb hts tnX0 hown hK hP 0 rfl rfl 0 (by decide) (hts _ qw_262) (fun _ h9 => h9) rfl dX0_findGreatest_24 ?_
    refine va_get (D := D) (ci := 1) (v := .int fc) (C := RX1) (T := TX1) (N := 8) hx hb hts tnX1 hown hK hP 2 rfl rfl 1 (by decide) (hts _ qw_269) (fun _ h9 => h9) rfl dX0_findGreatest_27 ?_
    refine lv_icmp_ge (tgt := 78) hx hb dX0_findGreatest_30 (by decide) (fun c4 => ?_) (fun c4 => ?_)
    · rw [if_pos c4] at hm
      have hm := Option.some.inj hm
      have e9 : x_bfi = bfi := (congrArg (fun q => q.1) hm).symm
      rw [e9] at K0
      have e9 : x_bla = bla := (congrArg (fun q => q.2.1) hm).symm
      rw [e9] at K0
      have e9 : x_bar = bar := (congrArg (fun q => q.2.2) hm).symm
      rw [e9] at K0
      exact K0 ls (lv_sub hl [0, 1, 2] rfl) _ _ hP hD hS
    · rw [if_neg c4] at hm
      refine lv_aload_n hx hb dX0_findGreatest_33 rfl (lv_at hl 0 rfl) ?_
      refine lv_iload_n hx hb dX0_findGreatest_34 rfl (lv_at hl 2 rfl) ?_
      refine lv_iload hx hb dX0_findGreatest_35 (lv_at hl 3 rfl) ?_
      refine lv_lload_n hx hb dX0_findGreatest_37 rfl (lv_at hl 1 rfl) ?_
      obtain ⟨r5, h6, hm⟩ := jb_out hm
      refine kX0_between ⟨hx, hb, hml, hown, hts⟩ qw_270 hP hK h6 hl.1 ⟨Nat.le_trans (by decide) hR.1, Nat.le_trans (by decide) hR.2.1, hR.2.2⟩ (Nat.le_of_ble_eq_true rfl) dX0_findGreatest_38 ?_
      refine kJ13_bitCount_95d88 ⟨hx, hb, hml, hown, hts⟩ qw_379 hl.1 ⟨Nat.le_trans (by decide) hR.1, Nat.le_trans (by decide) hR.2.1, hR.2.2⟩ (Nat.le_of_ble_eq_true rfl) dX0_findGreatest_41 ?_
      refine lv_istore (lv' := [(5, .int (mJ13_bitCount_95d88 r5)), (0, .ref oB), (1, .long v1), (3, .int v3), (4, .int v4)]) hx hb dX0_findGreatest_44 hl (by decide) rfl (fun ls hl => ?_)
      refine lv_iload hx hb dX0_findGreatest_46 (lv_at hl 0 rfl) ?_
      refine lv_aload_n hx hb dX0_findGreatest_48 rfl (lv_at hl 1 rfl) ?_
      refine va_get (D := D) (ci := 0) (v := .int bar) (C := RX0) (T := TX0) (N := 6) hx hb hts tnX0 hown hK hP 0 rfl rfl 5 (by decide) (hts _ qw_378) (fun _ h9 => h9) rfl dX0_findGreatest_49 ?_
      obtain ⟨j8, j9, j10, hi11, hm⟩ := jb_out3 hm
      have key12 : ∀ (ls : Array Slot), lv_has ls 6 [(0, .ref oB), (1, .long v1), (3, .int v3), (4, .int v4)] → ∀ (H : Heap) (locs : List Loc), va_P D vwCl (wdB cJ cI oB oBw oF oFr oFs oFc oFw bsz j8 j9 j10 bwi fw fc fwh fbo fra fst fco fro) H → va_D A (wdB cJ cI oB oBw oF oFr oFs oFc oFw bsz j8 j9 j10 bwi fw fc fwh fbo fra fst fco fro) → va_S A s.heap H locs → W p l e R s m args below meth c H locs cells slots Q (F0 m 72 ls []) := by
        intro ls hl H locs hP hD hS
        refine lv_iinc (v := (v4 + (1 : Int32))) (lv' := [(4, .int (v4 + (1 : Int32))), (0, .ref oB), (1, .long v1), (3, .int v3)]) hx hb dX0_findGreatest_72 hl (k := 3) rfl (by rfl) (by decide) rfl (fun ls hl => ?_)
        refine lv_goto (tgt := 21) hx hb dX0_findGreatest_75 (by decide) ?_
        exact ih _ _ _ _ _ _ _ hm ls (lv_sub hl [1, 2, 3, 0] rfl) _ _ hP hD hS K0
      refine lv_icmp_le (tgt := 72) hx hb dX0_findGreatest_52 (by decide) (fun c13 => ?_) (fun c13 => ?_)
      · rw [if_pos c13] at hi11
        have hi11 := Option.some.inj hi11
        have e9 : j8 = bfi := (congrArg (fun q => q.1) hi11).symm
        rw [e9] at key12
        have e9 : j9 = bla := (congrArg (fun q => q.2.1) hi11).symm
        rw [e9] at key12
        have e9 : j10 = bar := (congrArg (fun q => q.2.2) hi11).symm
        rw [e9] at key12
        exact key12 ls (lv_sub hl [1, 2, 3, 4] rfl) _ _ hP hD hS
      · rw [if_neg c13] at hi11
        refine lv_aload_n hx hb dX0_findGreatest_55 rfl (lv_at hl 1 rfl) ?_
        refine lv_iload_n hx hb dX0_findGreatest_56 rfl (lv_at hl 3 rfl) ?_
        refine va_put (D := D) (ci := 0) (v := .int v3) (ty := .int) (C := RX0) (T := TX0) (N := 6) hx hb hts tnX0 tyX0 tyX0_ok nmX0 hown hK hP hD hS 0 rfl rfl 3 (by decide) (hts _ qw_380) (fun _ h9 => h9) rfl (by decide +kernel) rfl rfl (Nat.le_of_ble_eq_true rfl) dX0_findGreatest_57 (fun H locs hP hD hS => ?_)
        have hP : va_P D vwCl (wdB cJ cI oB oBw oF oFr oFs oFc oFw bsz v3 bla bar bwi fw fc fwh fbo fra fst fco fro) H := hP
        have hD : va_D A (wdB cJ cI oB oBw oF oFr oFs oFc oFw bsz v3 bla bar bwi fw fc fwh fbo fra fst fco fro) := hD
        refine lv_aload_n hx hb dX0_findGreatest_60 rfl (lv_at hl 1 rfl) ?_
        refine lv_iload hx hb dX0_findGreatest_61 (lv_at hl 4 rfl) ?_
        refine va_put (D := D) (ci := 0) (v := .int v4) (ty := .int) (C := RX0) (T := TX0) (N := 6) hx hb hts tnX0 tyX0 tyX0_ok nmX0 hown hK hP hD hS 0 rfl rfl 4 (by decide) (hts _ qw_381) (fun _ h9 => h9) rfl (by decide +kernel) rfl rfl (Nat.le_of_ble_eq_true rfl) dX0_findGreatest_63 (fun H locs hP hD hS => ?_)
        have hP : va_P D vwCl (wdB cJ cI oB oBw oF oFr oFs oFc oFw bsz v3 v4 bar bwi fw fc fwh fbo fra fst fco fro) H := hP
        have hD : va_D A (wdB cJ cI oB oBw oF oFr oFs oFc oFw bsz v3 v4 bar bwi fw fc fwh fbo fra fst fco fro) := hD
        refine lv_aload_n hx hb dX0_findGreatest_66 rfl (lv_at hl 1 rfl) ?_
        refine lv_iload hx hb dX0_findGreatest_67 (lv_at hl 0 rfl) ?_
        refine va_put (D := D) (ci := 0) (v := .int (mJ13_bitCount_95d88 r5)) (ty := .int) (C := RX0) (T := TX0) (N := 6) hx hb hts tnX0 tyX0 tyX0_ok nmX0 hown hK hP hD hS 0 rfl rfl 5 (by decide) (hts _ qw_378) (fun _ h9 => h9) rfl (by decide +kernel) rfl rfl (Nat.le_of_ble_eq_true rfl) dX0_findGreatest_69 (fun H locs hP hD hS => ?_)
        have hP : va_P D vwCl (wdB cJ cI oB oBw oF oFr oFs oFc oFw bsz v3 v4 (mJ13_bitCount_95d88 r5) bwi fw fc fwh fbo fra fst fco fro) H := hP
        have hD : va_D A (wdB cJ cI oB oBw oF oFr oFs oFc oFw bsz v3 v4 (mJ13_bitCount_95d88 r5) bwi fw fc fwh fbo fra fst fco fro) := hD
        have hi11 := Option.some.inj hi11
        have e9 : j8 = v3 := (congrArg (fun q => q.1) hi11).symm
        rw [e9] at key12
        have e9 : j9 = v4 := (congrArg (fun q => q.2.1) hi11).symm
        rw [e9] at key12
        have e9 : j10 = (mJ13_bitCount_95d88 r5) := (congrArg (fun q => q.2.2) hi11).symm
        rw [e9] at key12
        exact key12 ls (lv_sub hl [1, 2, 3, 4] rfl) _ _ hP hD hS
set_option maxHeartbeats 4000000 in
set_option maxRecDepth 100000 in
theorem wX0_findGreatest_L7 {n : Nat} {v1 : Int64} (hx : p.tables.exec = Jvm.exec) (hb : c.code = cX0_findGreatest) (hml : c.maxLocals = 6) (hown : s.vm.findClass RX0 = some m.cls) (hts : ∀ w ∈ tw, w.before args s = true) (hK : va_K D vwCl [(cI, .int), (cJ, .long)] s) (hA : ∀ q, s.heap.size ≤ q → A q) (hR : 2 ≤ R.frames ∧ 55 ≤ R.locals ∧ cells ≤ R.cells ∧ slots ≤ R.slots) : ∀ (k : Nat) (v3 : Int32) (bfi : Int32) (bla : Int32) (bar : Int32) (x_bfi : Int32) (x_bla : Int32) (x_bar : Int32), mX0_findGreatest_L7 n fc fco fro fw v1 k v3 bfi bla bar = some (x_bfi, x_bla, x_bar) → ∀ ls : Array Slot, lv_has ls 6 [(0, .ref oB), (1, .long v1), (3, .int v3)] → ∀ (H : Heap) (locs : List Loc), va_P D vwCl (wdB cJ cI oB oBw oF oFr oFs oFc oFw bsz bfi bla bar bwi fw fc fwh fbo fra fst fco fro) H → va_D A (wdB cJ cI oB oBw oF oFr oFs oFc oFw bsz bfi bla bar bwi fw fc fwh fbo fra fst fco fro) → va_S A s.heap H locs → (∀ ls : Array Slot, lv_has ls 6 [(0, .ref oB)] → ∀ (H : Heap) (locs : List Loc), va_P D vwCl (wdB cJ cI oB oBw oF oFr oFs oFc oFw bsz x_bfi x_bla x_bar bwi fw fc fwh fbo fra fst fco fro) H → va_D A (wdB cJ cI oB oBw oF oFr oFs oFc oFw bsz x_bfi x_bla x_bar bwi fw fc fwh fbo fra fst fco fro) → va_S A s.heap H locs → W p l e R s m args below meth c H locs cells slots Q (F0 m 84 ls [])) → W p l e R s m args below meth c H locs cells slots Q (F0 m 7 ls []) := by
  intro k
  induction k with
  | zero => intro v3 bfi bla bar x_bfi x_bla x_bar hm; rw [mX0_findGreatest_L7] at hm; cases hm
  | succ k ih =>
    intro v3 bfi bla bar x_bfi x_bla x_bar hm ls hl H locs hP hD hS K0
    rw [mX0_findGreatest_L7] at hm
    refine lv_iload_n hx hb dX0_findGreatest_7 rfl (lv_at hl 2 rfl) ?_
    refine lv_aload_n hx hb dX0_findGreatest_8 rfl (lv_at hl 0 rfl) ?_
    refine va_get (D := D) (ci := 0) (v := .ref oF) (C := RX0) (T := TX0) (N := 6) hx hb hts tnX0 hown hK hP 0 rfl rfl 0 (by decide) (hts _ qw_262) (fun _ h9 => h9) rfl dX0_findGreatest_9 ?_
    refine va_get (D := D) (ci := 1) (v := .int fc) (C := RX1) (T := TX1) (N := 8) hx hb hts tnX1 hown hK hP 2 rfl rfl 1 (by decide) (hts _ qw_269) (fun _ h9 => h9) rfl dX0_findGreatest_12 ?_
    refine lv_icmp_ge (tgt := 84) hx hb dX0_findGreatest_15 (by decide) (fun c2 => ?_) (fun c2 => ?_)
    · rw [if_pos c2] at hm
      have hm := Option.some.inj hm
      have e9 : x_bfi = bfi := (congrArg (fun q => q.1) hm).symm
      rw [e9] at K0
      have e9 : x_bla = bla := (congrArg (fun q => q.2.1) hm).symm
      rw [e9] at K0
      have e9 : x_bar = bar := (congrArg (fun q => q.2.2) hm).symm
      rw [e9] at K0
      exact K0 ls (lv_sub hl [0] rfl) _ _ hP hD hS
    · rw [if_neg c2] at hm
      refine lv_iload_n hx hb dX0_findGreatest_18 rfl (lv_at hl 2 rfl) ?_
      refine lv_istore (lv' := [(4, .int v3), (0, .ref oB), (1, .long v1), (3, .int v3)]) hx hb dX0_findGreatest_19 hl (by decide) rfl (fun ls hl => ?_)
      obtain ⟨y14, y15, y16, h17, hm⟩ := jb_out3 hm
      refine wX0_findGreatest_L21 hx hb hml hown hts hK hA hR n _ _ _ _ _ _ _  h17 ls (lv_sub hl [1, 2, 3, 0] rfl) _ _ hP hD hS (fun ls hl H locs hP hD hS => ?_)
      refine lv_iinc (v := (v3 + (1 : Int32))) (lv' := [(3, .int (v3 + (1 : Int32))), (0, .ref oB), (1, .long v1)]) hx hb dX0_findGreatest_78 hl (k := 2) rfl (by rfl) (by decide) rfl (fun ls hl => ?_)
      refine lv_goto (tgt := 7) hx hb dX0_findGreatest_81 (by decide) ?_
      exact ih _ _ _ _ _ _ _ hm ls (lv_sub hl [1, 2, 0] rfl) _ _ hP hD hS K0
set_option maxHeartbeats 4000000 in
set_option maxRecDepth 100000 in
theorem bX0_findGreatest {n : Nat} {a1 : Int64} {r : Int32} {y_bfi : (Int32)} {y_bla : (Int32)} {y_bar : (Int32)} (hx : p.tables.exec = Jvm.exec) (hb : c.code = cX0_findGreatest) (hml : c.maxLocals = 6) (hown : s.vm.findClass RX0 = some m.cls) (hts : ∀ w ∈ tw, w.before args s = true) (hK : va_K D vwCl [(cI, .int), (cJ, .long)] s) (hA : ∀ q, s.heap.size ≤ q → A q) (hR : 2 ≤ R.frames ∧ 55 ≤ R.locals ∧ cells ≤ R.cells ∧ slots ≤ R.slots) (hm : mX0_findGreatest n fc fco fro fw bfi bla a1 = some (r, y_bfi, y_bla, y_bar)) (ls : Array Slot) (hl : lv_has ls 6 [(0, .ref oB), (1, .long a1)]) (hP : va_P D vwCl (wdB cJ cI oB oBw oF oFr oFs oFc oFw bsz bfi bla bar bwi fw fc fwh fbo fra fst fco fro) H) (hD : va_D A (wdB cJ cI oB oBw oF oFr oFs oFc oFw bsz bfi bla bar bwi fw fc fwh fbo fra fst fco fro)) (hS : va_S A s.heap H locs) (K : ∀ (pc : Nat) (ls : Array Slot) (H : Heap) (locs : List Loc), decode cX0_findGreatest pc = .ok (.ireturn, 1) → narrow .boolean (.int r) = .int r → va_P D vwCl (wdB cJ cI oB oBw oF oFr oFs oFc oFw bsz y_bfi y_bla y_bar bwi fw fc fwh fbo fra fst fco fro) H → va_D A (wdB cJ cI oB oBw oF oFr oFs oFc oFw bsz y_bfi y_bla y_bar bwi fw fc fwh fbo fra fst fco fro) → va_S A s.heap H locs → W p l e R s m args below meth c H locs cells slots Q (F0 m pc ls [.int r])) : W p l e R s m args below meth c H locs cells slots Q (F0 m 0 ls []) := by
  unfold mX0_findGreatest at hm
  refine lv_aload_n hx hb dX0_findGreatest_0 rfl (lv_at hl 0 rfl) ?_
  refine lv_iconst (v := (0 : Int32)) hx hb dX0_findGreatest_1 (by decide) ?_
  refine va_put (D := D) (ci := 0) (v := .int (0 : Int32)) (ty := .int) (C := RX0) (T := TX0) (N := 6) hx hb hts tnX0 tyX0 tyX0_ok nmX0 hown hK hP hD hS 0 rfl rfl 5 (by decide) (hts _ qw_378) (fun _ h9 => h9) rfl (by decide +kernel) rfl rfl (Nat.le_of_ble_eq_true rfl) dX0_findGreatest_2 (fun H locs hP hD hS => ?_)
  have hP : va_P D vwCl (wdB cJ cI oB oBw oF oFr oFs oFc oFw bsz bfi bla (0 : Int32) bwi fw fc fwh fbo fra fst fco fro) H := hP
  have hD : va_D A (wdB cJ cI oB oBw oF oFr oFs oFc oFw bsz bfi bla (0 : Int32) bwi fw fc fwh fbo fra fst fco fro) := hD
  refine lv_iconst (v := (0 : Int32)) hx hb dX0_findGreatest_5 (by decide) ?_
  refine lv_istore_n (lv' := [(3, .int (0 : Int32)), (0, .ref oB), (1, .long a1)]) hx hb dX0_findGreatest_6 rfl hl (by decide) rfl (fun ls hl => ?_)
  obtain ⟨y18, y19, y20, h21, hm⟩ := jb_out3 hm
  refine wX0_findGreatest_L7 hx hb hml hown hts hK hA hR n _ _ _ _ _ _ _  h21 ls (lv_sub hl [1, 2, 0] rfl) _ _ hP hD hS (fun ls hl H locs hP hD hS => ?_)
  refine lv_aload_n hx hb dX0_findGreatest_84 rfl (lv_at hl 0 rfl) ?_
  refine va_get (D := D) (ci := 0) (v := .int y20) (C := RX0) (T := TX0) (N := 6) hx hb hts tnX0 hown hK hP 0 rfl rfl 5 (by decide) (hts _ qw_378) (fun _ h9 => h9) rfl dX0_findGreatest_85 ?_
  refine lv_if_le (tgt := 95) hx hb dX0_findGreatest_88 (by decide) (fun c22 => ?_) (fun c22 => ?_)
  · rw [if_pos c22] at hm
    refine lv_iconst (v := (0 : Int32)) hx hb dX0_findGreatest_95 (by decide) ?_
    have hm := Option.some.inj hm
    have e9 : r = (0 : Int32) := (congrArg (fun q => q.1) hm).symm
    rw [e9] at K
    have e9 : y_bfi = y18 := (congrArg (fun q => q.2.1) hm).symm
    rw [e9] at K
    have e9 : y_bla = y19 := (congrArg (fun q => q.2.2.1) hm).symm
    rw [e9] at K
    have e9 : y_bar = y20 := (congrArg (fun q => q.2.2.2) hm).symm
    rw [e9] at K
    exact K 96 ls _ _ dX0_findGreatest_96 rfl hP hD hS
  · rw [if_neg c22] at hm
    refine lv_iconst (v := (1 : Int32)) hx hb dX0_findGreatest_91 (by decide) ?_
    refine lv_goto (tgt := 96) hx hb dX0_findGreatest_92 (by decide) ?_
    have hm := Option.some.inj hm
    have e9 : r = (1 : Int32) := (congrArg (fun q => q.1) hm).symm
    rw [e9] at K
    have e9 : y_bfi = y18 := (congrArg (fun q => q.2.1) hm).symm
    rw [e9] at K
    have e9 : y_bla = y19 := (congrArg (fun q => q.2.2.1) hm).symm
    rw [e9] at K
    have e9 : y_bar = y20 := (congrArg (fun q => q.2.2.2) hm).symm
    rw [e9] at K
    exact K 96 ls _ _ dX0_findGreatest_96 rfl hP hD hS
set_option maxHeartbeats 4000000 in
set_option maxRecDepth 100000 in
theorem tX0_findGreatest (l : Launch) {D : va_G} (sz : Nat) {n : Nat} {a1 : Int64} {r : Int32} {y_bfi : (Int32)} {y_bla : (Int32)} {y_bar : (Int32)} (hm : mX0_findGreatest n fc fco fro fw bfi bla a1 = some (r, y_bfi, y_bla, y_bar)) : Met l yX0_findGreatest (.code yX0_findGreatest cX0_findGreatest 6 (some .boolean) :: tw) ({ frames := 2, cells := 0, slots := 0, locals := 55 } : Room) (wrP D [.ref oB, .long a1] (wdB cJ cI oB oBw oF oFr oFs oFc oFw bsz bfi bla bar bwi fw fc fwh fbo fra fst fco fro) [(cI, .int), (cJ, .long)] sz) (va_Qi (fun q (_ : Unit) => q = r ∧ narrow .boolean (.int q) = .int q) (fun (_ : Unit) (t : State) => va_P D vwCl (wdB cJ cI oB oBw oF oFr oFs oFc oFw bsz y_bfi y_bla y_bar bwi fw fc fwh fbo fra fst fco fro) t.heap ∧ va_K D vwCl [(cI, .int), (cJ, .long)] t ∧ va_D (va_A (wdB cJ cI oB oBw oF oFr oFs oFc oFw bsz bfi bla bar bwi fw fc fwh fbo fra fst fco fro) sz) (wdB cJ cI oB oBw oF oFr oFs oFc oFw bsz y_bfi y_bla y_bar bwi fw fc fwh fbo fra fst fco fro)) (va_A (wdB cJ cI oB oBw oF oFr oFs oFc oFw bsz bfi bla bar bwi fw fc fwh fbo fra fst fco fro) sz)) 0 0 (va_A (wdB cJ cI oB oBw oF oFr oFs oFc oFw bsz bfi bla bar bwi fw fc fwh fbo fra fst fco fro) sz) := by
  refine Met.ofW (cc := cX0_findGreatest) (maxL := 6) (ret := (some .boolean)) (by decide) rfl ?_
  intro p e s m args below meth c s₁ B hml hv
  obtain ⟨rfl, hsz, hP, hK, hD0⟩ := hv
  have hx := B.exec
  have hb := B.bytes
  have hr := B.returns
  have hts : ∀ w ∈ tw, w.before _ s = true := fun w h => atoms_spec (ws := .code yX0_findGreatest cX0_findGreatest 6 (some .boolean) :: tw) B.pre w (List.mem_cons_of_mem _ h)
  have hown : s.vm.findClass RX0 = some m.cls := findClass_of_methodNamed B.named
  have hlocks := B.notSynchronized
  subst hsz
  have hD := hD0.self (sz := s.heap.size)
  have hl := lv_entry ([.ref oB, .long a1]) (n := 6) (Nat.le_of_ble_eq_true rfl)
  rw [lg_entry_eq]
  generalize (lg_sl ([.ref oB, .long a1]) ++ List.replicate (6 - (lg_sl ([.ref oB, .long a1])).length) Slot.unset).toArray = ls at hl ⊢
  refine bX0_findGreatest hx hb hml hown hts hK (fun q h => Or.inr h) ⟨Nat.le_of_ble_eq_true rfl, Nat.le_of_ble_eq_true rfl, Nat.zero_le _, Nat.zero_le _⟩ hm ls hl hP hD va_S.rf (fun pc ls H locs hd hz hP hD hS => ?_)
  exact W.zret hx hb hr hz (fun t ht hW => ⟨⟨r, (), rfl, ⟨rfl, hz⟩, by rw [ht]; exact hP, va_K.moved hW.alike hK, hD⟩, hS.F ht⟩) hS.2.2 hd
set_option maxHeartbeats 4000000 in
set_option maxRecDepth 100000 in
theorem kX0_findGreatest {own : String} {cc : ByteArray} {nL idx pc : Nat} {ls : Array Slot} {rest : List Value} {ws wr : va_W} {n : Nat} {a1 : Int64} {r : Int32} {y_bfi : (Int32)} {y_bla : (Int32)} {y_bar : (Int32)} (fx : CallFix p m c cc nL s args tw own) (hq : Cond.methodLink own idx yX0_findGreatest ∈ tw) (isC isR : List Nat) (hC : isC.map (fun i => ws[i]?) = ((wdB cJ cI oB oBw oF oFr oFs oFc oFw bsz bfi bla bar bwi fw fc fwh fbo fra fst fco fro) : va_W).map some) (hRr : isR.map (fun i => ws[i]?) = wr.map some) (hnC : va_nd isC = true) (hn : va_nd isR = true) (hdis : ∀ i ∈ isR, i ∉ isC) (hK : va_K D vwCl [(cI, .int), (cJ, .long)] s) (hm : mX0_findGreatest n fc fco fro fw bfi bla a1 = some (r, y_bfi, y_bla, y_bar)) (hsz : ls.size = nL) (hR : 3 ≤ R.frames ∧ 80 ≤ R.locals ∧ cells ≤ R.cells ∧ slots ≤ R.slots) (hst : (rest.map fun v => v.category).sum ≤ 8) (hd : decode cc pc = .ok (.invokevirtual idx, 3)) (hP : va_P D vwCl ws H) (hD : va_D A ws) (hS : va_S A s.heap H locs) (hA : ∀ q, s.heap.size ≤ q → A q) (kk : ∀ (H : Heap) (locs : List Loc), va_P D vwCl (wr ++ (wdB cJ cI oB oBw oF oFr oFs oFc oFw bsz y_bfi y_bla y_bar bwi fw fc fwh fbo fra fst fco fro)) H → va_D A (wr ++ (wdB cJ cI oB oBw oF oFr oFs oFc oFw bsz y_bfi y_bla y_bar bwi fw fc fwh fbo fra fst fco fro)) → va_S A s.heap H locs → W p l e R s m args below meth c H locs cells slots Q (F0 m (pc + 3) ls (.int r :: rest))) : W p l e R s m args below meth c H locs cells slots Q (F0 m pc ls (.long a1 :: .ref oB :: rest)) := by
  have hPc := va_P.subM hP isC hC
  have hDc := hD.sub isC hnC hC
  have hFc := va_free (wc := (wdB cJ cI oB oBw oF oFr oFs oFc oFw bsz bfi bla bar bwi fw fc fwh fbo fra fst fco fro)) hD hS hA isC hC
  refine va_calli (va_runV (As := [.long a1]) (rest := rest) fx (tX0_findGreatest l H.size hm) (cwV 1 fx.2.2.2.2 (tw_V hq qw_382 qw_383 qw_267 qw_384) rfl rfl rfl (by decide +kernel) ⟨hR.1, hR.2.1⟩) ⟨wrP_bl, va_recv hK hPc (ci := 0) (q0 := 0) rfl rfl, wrP_ok hPc hK hDc⟩ rfl rfl hsz rfl (lv_room hst) hd ⟨hR.2.2.1, hR.2.2.2⟩) hS (fun q _ h => hFc q h) hFc (fun r9 u t H1 locs ht hvm hw hB hz1 hk1 hS => ?_)
  obtain ⟨hP1, hK1, hD1⟩ := hB
  rw [ht] at hP1
  rw [hw.1]
  obtain ⟨hP2, hD2⟩ := va_join (wr := wr) (w1 := (wdB cJ cI oB oBw oF oFr oFs oFc oFw bsz y_bfi y_bla y_bar bwi fw fc fwh fbo fra fst fco fro)) hP hD isC isR hC hRr hn hdis hk1 hFc hP1 hD1
  exact kk H1 locs hP2 hD2 hS
-- X0_gatherWidest
def mX0_gatherWidest_L21 (n : Nat) (fc : Int32) (fco : Nat → Int32) (fro : Nat → Int32) (fw : Int32) (v3 : Int32) (v1 : Int64) (fst : Nat → Int64) (fra : Nat → Int32) : Nat → (Int32) → (Int32) → (Nat → Int64) → Option ((Int32) × (Nat → Int64))
  | 0, _, _, _ => none
  | k + 1, v4, bsz, bwi => (if fc ≤ v4 then some ((bsz, bwi)) else jb (mX0_between n fco fro fw v3 v4 v1) (fun (r5 : Int64) => jb2 (if r5 = (0 : Int64) then (some (bsz, bwi)) else jb (mX1_canWiden n fst fra r5 v1) (fun (r12 : Int32) => (if r12 = 0 then (if (210 : Int32) ≤ bsz then (some (bsz, bwi)) else gd (ib bsz 210) ((some ((bsz + (1 : Int32)), (vp_updL bwi bsz.toNatClampNeg r5))))) else (some (bsz, bwi))))) (fun (j7 : Int32) (j8 : Nat → Int64) => mX0_gatherWidest_L21 n fc fco fro fw v3 v1 fst fra k (v4 + (1 : Int32)) j7 j8)))
def mX0_gatherWidest_L7 (n : Nat) (fc : Int32) (fco : Nat → Int32) (fro : Nat → Int32) (fw : Int32) (v1 : Int64) (fst : Nat → Int64) (fra : Nat → Int32) : Nat → (Int32) → (Int32) → (Nat → Int64) → Option ((Int32) × (Nat → Int64))
  | 0, _, _, _ => none
  | k + 1, v3, bsz, bwi => (if fc ≤ v3 then some ((bsz, bwi)) else jb2 (mX0_gatherWidest_L21 n fc fco fro fw v3 v1 fst fra n v3 bsz bwi) (fun (y17 : Int32) (y18 : Nat → Int64) => mX0_gatherWidest_L7 n fc fco fro fw v1 fst fra k (v3 + (1 : Int32)) y17 y18))
def mX0_gatherWidest (n : Nat) (fc : Int32) (fco : Nat → Int32) (fro : Nat → Int32) (fw : Int32) (fst : Nat → Int64) (fra : Nat → Int32) (bwi : Nat → Int64) (a1 : Int64) : Option ((Int32) × (Nat → Int64)) :=
  jb2 (mX0_gatherWidest_L7 n fc fco fro fw a1 fst fra n (0 : Int32) (0 : Int32) bwi) (fun (y20 : Int32) (y21 : Nat → Int64) => (some (y20, y21)))
theorem dX0_gatherWidest_0 : decode cX0_gatherWidest 0 = .ok (.aload_n 0, 1) := by decide +kernel
theorem dX0_gatherWidest_1 : decode cX0_gatherWidest 1 = .ok (.iconst 0, 1) := by decide +kernel
theorem dX0_gatherWidest_2 : decode cX0_gatherWidest 2 = .ok (.putfield 15, 3) := by decide +kernel
theorem dX0_gatherWidest_5 : decode cX0_gatherWidest 5 = .ok (.iconst 0, 1) := by decide +kernel
theorem dX0_gatherWidest_6 : decode cX0_gatherWidest 6 = .ok (.istore_n 3, 1) := by decide +kernel
theorem dX0_gatherWidest_7 : decode cX0_gatherWidest 7 = .ok (.iload_n 3, 1) := by decide +kernel
theorem dX0_gatherWidest_8 : decode cX0_gatherWidest 8 = .ok (.aload_n 0, 1) := by decide +kernel
theorem dX0_gatherWidest_9 : decode cX0_gatherWidest 9 = .ok (.getfield 28, 3) := by decide +kernel
theorem dX0_gatherWidest_12 : decode cX0_gatherWidest 12 = .ok (.getfield 40, 3) := by decide +kernel
theorem dX0_gatherWidest_15 : decode cX0_gatherWidest 15 = .ok (.if_icmp .ge 91, 3) := by decide +kernel
theorem dX0_gatherWidest_18 : decode cX0_gatherWidest 18 = .ok (.iload_n 3, 1) := by decide +kernel
theorem dX0_gatherWidest_19 : decode cX0_gatherWidest 19 = .ok (.istore 4, 2) := by decide +kernel
theorem dX0_gatherWidest_21 : decode cX0_gatherWidest 21 = .ok (.iload 4, 2) := by decide +kernel
theorem dX0_gatherWidest_23 : decode cX0_gatherWidest 23 = .ok (.aload_n 0, 1) := by decide +kernel
theorem dX0_gatherWidest_24 : decode cX0_gatherWidest 24 = .ok (.getfield 28, 3) := by decide +kernel
theorem dX0_gatherWidest_27 : decode cX0_gatherWidest 27 = .ok (.getfield 40, 3) := by decide +kernel
theorem dX0_gatherWidest_30 : decode cX0_gatherWidest 30 = .ok (.if_icmp .ge 70, 3) := by decide +kernel
theorem dX0_gatherWidest_33 : decode cX0_gatherWidest 33 = .ok (.aload_n 0, 1) := by decide +kernel
theorem dX0_gatherWidest_34 : decode cX0_gatherWidest 34 = .ok (.iload_n 3, 1) := by decide +kernel
theorem dX0_gatherWidest_35 : decode cX0_gatherWidest 35 = .ok (.iload 4, 2) := by decide +kernel
theorem dX0_gatherWidest_37 : decode cX0_gatherWidest 37 = .ok (.lload_n 1, 1) := by decide +kernel
theorem dX0_gatherWidest_38 : decode cX0_gatherWidest 38 = .ok (.invokevirtual 43, 3) := by decide +kernel
theorem dX0_gatherWidest_41 : decode cX0_gatherWidest 41 = .ok (.lstore 5, 2) := by decide +kernel
theorem dX0_gatherWidest_43 : decode cX0_gatherWidest 43 = .ok (.lload 5, 2) := by decide +kernel
theorem dX0_gatherWidest_45 : decode cX0_gatherWidest 45 = .ok (.lconst 0, 1) := by decide +kernel
theorem dX0_gatherWidest_46 : decode cX0_gatherWidest 46 = .ok (.lcmp, 1) := by decide +kernel
theorem dX0_gatherWidest_47 : decode cX0_gatherWidest 47 = .ok (.ifCond .eq 47, 3) := by decide +kernel
theorem dX0_gatherWidest_50 : decode cX0_gatherWidest 50 = .ok (.aload_n 0, 1) := by decide +kernel
theorem dX0_gatherWidest_51 : decode cX0_gatherWidest 51 = .ok (.getfield 28, 3) := by decide +kernel
theorem dX0_gatherWidest_54 : decode cX0_gatherWidest 54 = .ok (.lload 5, 2) := by decide +kernel
theorem dX0_gatherWidest_56 : decode cX0_gatherWidest 56 = .ok (.lload_n 1, 1) := by decide +kernel
theorem dX0_gatherWidest_57 : decode cX0_gatherWidest 57 = .ok (.invokevirtual 47, 3) := by decide +kernel
theorem dX0_gatherWidest_60 : decode cX0_gatherWidest 60 = .ok (.ifCond .ne 34, 3) := by decide +kernel
theorem dX0_gatherWidest_63 : decode cX0_gatherWidest 63 = .ok (.aload_n 0, 1) := by decide +kernel
theorem dX0_gatherWidest_64 : decode cX0_gatherWidest 64 = .ok (.getfield 15, 3) := by decide +kernel
theorem dX0_gatherWidest_67 : decode cX0_gatherWidest 67 = .ok (.sipush 210, 3) := by decide +kernel
theorem dX0_gatherWidest_70 : decode cX0_gatherWidest 70 = .ok (.if_icmp .ge 24, 3) := by decide +kernel
theorem dX0_gatherWidest_73 : decode cX0_gatherWidest 73 = .ok (.aload_n 0, 1) := by decide +kernel
theorem dX0_gatherWidest_74 : decode cX0_gatherWidest 74 = .ok (.getfield 11, 3) := by decide +kernel
theorem dX0_gatherWidest_77 : decode cX0_gatherWidest 77 = .ok (.aload_n 0, 1) := by decide +kernel
theorem dX0_gatherWidest_78 : decode cX0_gatherWidest 78 = .ok (.getfield 15, 3) := by decide +kernel
theorem dX0_gatherWidest_81 : decode cX0_gatherWidest 81 = .ok (.lload 5, 2) := by decide +kernel
theorem dX0_gatherWidest_83 : decode cX0_gatherWidest 83 = .ok (.lastore, 1) := by decide +kernel
theorem dX0_gatherWidest_84 : decode cX0_gatherWidest 84 = .ok (.aload_n 0, 1) := by decide +kernel
theorem dX0_gatherWidest_85 : decode cX0_gatherWidest 85 = .ok (.dup, 1) := by decide +kernel
theorem dX0_gatherWidest_86 : decode cX0_gatherWidest 86 = .ok (.getfield 15, 3) := by decide +kernel
theorem dX0_gatherWidest_89 : decode cX0_gatherWidest 89 = .ok (.iconst 1, 1) := by decide +kernel
theorem dX0_gatherWidest_90 : decode cX0_gatherWidest 90 = .ok (.iadd, 1) := by decide +kernel
theorem dX0_gatherWidest_91 : decode cX0_gatherWidest 91 = .ok (.putfield 15, 3) := by decide +kernel
theorem dX0_gatherWidest_94 : decode cX0_gatherWidest 94 = .ok (.iinc 4 1, 3) := by decide +kernel
theorem dX0_gatherWidest_97 : decode cX0_gatherWidest 97 = .ok (.goto (-76), 3) := by decide +kernel
theorem dX0_gatherWidest_100 : decode cX0_gatherWidest 100 = .ok (.iinc 3 1, 3) := by decide +kernel
theorem dX0_gatherWidest_103 : decode cX0_gatherWidest 103 = .ok (.goto (-96), 3) := by decide +kernel
theorem dX0_gatherWidest_106 : decode cX0_gatherWidest 106 = .ok (.return_, 1) := by decide +kernel
set_option maxHeartbeats 4000000 in
set_option maxRecDepth 100000 in
theorem wX0_gatherWidest_L21 {n : Nat} {v1 : Int64} {v3 : Int32} (hx : p.tables.exec = Jvm.exec) (hb : c.code = cX0_gatherWidest) (hml : c.maxLocals = 7) (hown : s.vm.findClass RX0 = some m.cls) (hts : ∀ w ∈ tw, w.before args s = true) (hK : va_K D vwCl [(cI, .int), (cJ, .long)] s) (hA : ∀ q, s.heap.size ≤ q → A q) (hZ : stZ A tS tA s s.heap) (hR : 2 ≤ R.frames ∧ 55 ≤ R.locals ∧ cells ≤ R.cells ∧ slots ≤ R.slots) : ∀ (k : Nat) (v4 : Int32) (bsz : Int32) (bwi : Nat → Int64) (x_bsz : Int32) (x_bwi : Nat → Int64), mX0_gatherWidest_L21 n fc fco fro fw v3 v1 fst fra k v4 bsz bwi = some (x_bsz, x_bwi) → ∀ ls : Array Slot, lv_has ls 7 [(0, .ref oB), (1, .long v1), (3, .int v3), (4, .int v4)] → ∀ (H : Heap) (locs : List Loc), va_P D vwCl (wdB cJ cI oB oBw oF oFr oFs oFc oFw bsz bfi bla bar bwi fw fc fwh fbo fra fst fco fro) H → va_D A (wdB cJ cI oB oBw oF oFr oFs oFc oFw bsz bfi bla bar bwi fw fc fwh fbo fra fst fco fro) → va_S A s.heap H locs → (∀ ls : Array Slot, lv_has ls 7 [(0, .ref oB), (1, .long v1), (3, .int v3)] → ∀ (H : Heap) (locs : List Loc), va_P D vwCl (wdB cJ cI oB oBw oF oFr oFs oFc oFw x_bsz bfi bla bar x_bwi fw fc fwh fbo fra fst fco fro) H → va_D A (wdB cJ cI oB oBw oF oFr oFs oFc oFw x_bsz bfi bla bar x_bwi fw fc fwh fbo fra fst fco fro) → va_S A s.heap H locs → W p l e R s m args below meth c H locs cells slots Q (F0 m 100 ls [])) → W p l e R s m args below meth c H locs cells slots Q (F0 m 21 ls []) := by
  intro k
  induction k with
  | zero => intro v4 bsz bwi x_bsz x_bwi hm; rw [mX0_gatherWidest_L21] at hm; cases hm
  | succ k ih =>
    intro v4 bsz bwi x_bsz x_bwi hm ls hl H locs hP hD hS K0
    rw [mX0_gatherWidest_L21] at hm
    refine lv_iload hx hb dX0_gatherWidest_21 (lv_at hl 3 rfl) ?_
    refine lv_aload_n hx hb dX0_gatherWidest_23 rfl (lv_at hl 0 rfl) ?_
    refine va_get (D := D) (ci := 0) (v := .ref oF) (C := RX0) (T := TX0) (N := 6) hx hb hts tnX0 hown hK hP 0 rfl rfl 0 (by decide) (hts _ qw_262) (fun _ h9 => h9) rfl dX0_gatherWidest_24 ?_
    refine va_get (D := D) (ci := 1) (v := .int fc) (C := RX1) (T := TX1) (N := 8) hx hb hts tnX1 hown hK hP 2 rfl rfl 1 (by decide) (hts _ qw_269) (fun _ h9 => h9) rfl dX0_gatherWidest_27 ?_
    refine lv_icmp_ge (tgt := 100) hx hb dX0_gatherWidest_30 (by decide) (fun c4 => ?_) (fun c4 => ?_)
    · rw [if_pos c4] at hm
      have hm := Option.some.inj hm
      have e9 : x_bsz = bsz := (congrArg (fun q => q.1) hm).symm
      rw [e9] at K0
      have e9 : x_bwi = bwi := (congrArg (fun q => q.2) hm).symm
      rw [e9] at K0
      exact K0 ls (lv_sub hl [0, 1, 2] rfl) _ _ hP hD hS
    · rw [if_neg c4] at hm
      refine lv_aload_n hx hb dX0_gatherWidest_33 rfl (lv_at hl 0 rfl) ?_
      refine lv_iload_n hx hb dX0_gatherWidest_34 rfl (lv_at hl 2 rfl) ?_
      refine lv_iload hx hb dX0_gatherWidest_35 (lv_at hl 3 rfl) ?_
      refine lv_lload_n hx hb dX0_gatherWidest_37 rfl (lv_at hl 1 rfl) ?_
      obtain ⟨r5, h6, hm⟩ := jb_out hm
      refine kX0_between ⟨hx, hb, hml, hown, hts⟩ qw_270 hP hK h6 hl.1 ⟨Nat.le_trans (by decide) hR.1, Nat.le_trans (by decide) hR.2.1, hR.2.2⟩ (Nat.le_of_ble_eq_true rfl) dX0_gatherWidest_38 ?_
      refine lv_lstore (lv' := [(5, .long r5), (0, .ref oB), (1, .long v1), (3, .int v3), (4, .int v4)]) hx hb dX0_gatherWidest_41 hl (by decide) rfl (fun ls hl => ?_)
      refine lv_lload hx hb dX0_gatherWidest_43 (lv_at hl 0 rfl) ?_
      refine lv_lconst (v := (0 : Int64)) hx hb dX0_gatherWidest_45 (by decide) ?_
      refine W.lcmp hx hb dX0_gatherWidest_46 ?_
      obtain ⟨j7, j8, hi9, hm⟩ := jb_out2 hm
      have key10 : ∀ (ls : Array Slot), lv_has ls 7 [(0, .ref oB), (1, .long v1), (3, .int v3), (4, .int v4)] → ∀ (H : Heap) (locs : List Loc), va_P D vwCl (wdB cJ cI oB oBw oF oFr oFs oFc oFw j7 bfi bla bar j8 fw fc fwh fbo fra fst fco fro) H → va_D A (wdB cJ cI oB oBw oF oFr oFs oFc oFw j7 bfi bla bar j8 fw fc fwh fbo fra fst fco fro) → va_S A s.heap H locs → W p l e R s m args below meth c H locs cells slots Q (F0 m 94 ls []) := by
        intro ls hl H locs hP hD hS
        refine lv_iinc (v := (v4 + (1 : Int32))) (lv' := [(4, .int (v4 + (1 : Int32))), (0, .ref oB), (1, .long v1), (3, .int v3)]) hx hb dX0_gatherWidest_94 hl (k := 3) rfl (by rfl) (by decide) rfl (fun ls hl => ?_)
        refine lv_goto (tgt := 21) hx hb dX0_gatherWidest_97 (by decide) ?_
        exact ih _ _ _ _ _ hm ls (lv_sub hl [1, 2, 3, 0] rfl) _ _ hP hD hS K0
      refine lv_if_eq (tgt := 94) hx hb dX0_gatherWidest_47 (by decide) (fun c11 => ?_) (fun c11 => ?_)
      · have c11 := (lg_cmp_eq r5 (0 : Int64)).mp c11
        rw [if_pos c11] at hi9
        have hi9 := Option.some.inj hi9
        have e9 : j7 = bsz := (congrArg (fun q => q.1) hi9).symm
        rw [e9] at key10
        have e9 : j8 = bwi := (congrArg (fun q => q.2) hi9).symm
        rw [e9] at key10
        exact key10 ls (lv_sub hl [1, 2, 3, 4] rfl) _ _ hP hD hS
      · have c11 := fun h9 => c11 ((lg_cmp_eq r5 (0 : Int64)).mpr h9)
        rw [if_neg c11] at hi9
        refine lv_aload_n hx hb dX0_gatherWidest_50 rfl (lv_at hl 1 rfl) ?_
        refine va_get (D := D) (ci := 0) (v := .ref oF) (C := RX0) (T := TX0) (N := 6) hx hb hts tnX0 hown hK hP 0 rfl rfl 0 (by decide) (hts _ qw_262) (fun _ h9 => h9) rfl dX0_gatherWidest_51 ?_
        refine lv_lload hx hb dX0_gatherWidest_54 (lv_at hl 0 rfl) ?_
        refine lv_lload_n hx hb dX0_gatherWidest_56 rfl (lv_at hl 2 rfl) ?_
        obtain ⟨r12, h13, hi9⟩ := jb_out hi9
        refine kX1_canWiden ⟨hx, hb, hml, hown, hts⟩ qw_271 (hP.sub (ws' := (wdF cI cJ oF oFr oFs oFc oFw fw fc fwh fbo fra fst fco fro)) [2, 3, 4, 5, 6] rfl) hK (stZ_at hZ hS) h13 hl.1 ⟨Nat.le_trans (by decide) hR.1, Nat.le_trans (by decide) hR.2.1, hR.2.2⟩ (Nat.le_of_ble_eq_true rfl) dX0_gatherWidest_57 ?_
        refine lv_if_ne (tgt := 94) hx hb dX0_gatherWidest_60 (by decide) (fun c14 => ?_) (fun c14 => ?_)
        · rw [if_neg c14] at hi9
          have hi9 := Option.some.inj hi9
          have e9 : j7 = bsz := (congrArg (fun q => q.1) hi9).symm
          rw [e9] at key10
          have e9 : j8 = bwi := (congrArg (fun q => q.2) hi9).symm
          rw [e9] at key10
          exact key10 ls (lv_sub hl [1, 2, 3, 4] rfl) _ _ hP hD hS
        · rw [if_pos c14] at hi9
          refine lv_aload_n hx hb dX0_gatherWidest_63 rfl (lv_at hl 1 rfl) ?_
          refine va_get (D := D) (ci := 0) (v := .int bsz) (C := RX0) (T := TX0) (N := 6) hx hb hts tnX0 hown hK hP 0 rfl rfl 2 (by decide) (hts _ qw_278) (fun _ h9 => h9) rfl dX0_gatherWidest_64 ?_
          refine lv_sipush (v := (210 : Int32)) hx hb dX0_gatherWidest_67 (by decide) ?_
          refine lv_icmp_ge (tgt := 94) hx hb dX0_gatherWidest_70 (by decide) (fun c15 => ?_) (fun c15 => ?_)
          · rw [if_pos c15] at hi9
            have hi9 := Option.some.inj hi9
            have e9 : j7 = bsz := (congrArg (fun q => q.1) hi9).symm
            rw [e9] at key10
            have e9 : j8 = bwi := (congrArg (fun q => q.2) hi9).symm
            rw [e9] at key10
            exact key10 ls (lv_sub hl [1, 2, 3, 4] rfl) _ _ hP hD hS
          · rw [if_neg c15] at hi9
            refine lv_aload_n hx hb dX0_gatherWidest_73 rfl (lv_at hl 1 rfl) ?_
            refine va_get (D := D) (ci := 0) (v := .ref oBw) (C := RX0) (T := TX0) (N := 6) hx hb hts tnX0 hown hK hP 0 rfl rfl 1 (by decide) (hts _ qw_279) (fun _ h9 => h9) rfl dX0_gatherWidest_74 ?_
            refine lv_aload_n hx hb dX0_gatherWidest_77 rfl (lv_at hl 1 rfl) ?_
            refine va_get (D := D) (ci := 0) (v := .int bsz) (C := RX0) (T := TX0) (N := 6) hx hb hts tnX0 hown hK hP 0 rfl rfl 2 (by decide) (hts _ qw_278) (fun _ h9 => h9) rfl dX0_gatherWidest_78 ?_
            refine lv_lload hx hb dX0_gatherWidest_81 (lv_at hl 0 rfl) ?_
            obtain ⟨g16, hi9⟩ := gd_out hi9
            refine va_last hx hb hK hP hD hS 1 1 rfl rfl g16 dX0_gatherWidest_83 (fun H locs hP hD hS => ?_)
            have hP : va_P D vwCl (wdB cJ cI oB oBw oF oFr oFs oFc oFw bsz bfi bla bar (vp_updL bwi bsz.toNatClampNeg r5) fw fc fwh fbo fra fst fco fro) H := hP
            have hD : va_D A (wdB cJ cI oB oBw oF oFr oFs oFc oFw bsz bfi bla bar (vp_updL bwi bsz.toNatClampNeg r5) fw fc fwh fbo fra fst fco fro) := hD
            refine lv_aload_n hx hb dX0_gatherWidest_84 rfl (lv_at hl 1 rfl) ?_
            refine lv_dup hx hb dX0_gatherWidest_85 rfl ?_
            refine va_get (D := D) (ci := 0) (v := .int bsz) (C := RX0) (T := TX0) (N := 6) hx hb hts tnX0 hown hK hP 0 rfl rfl 2 (by decide) (hts _ qw_278) (fun _ h9 => h9) rfl dX0_gatherWidest_86 ?_
            refine lv_iconst (v := (1 : Int32)) hx hb dX0_gatherWidest_89 (by decide) ?_
            refine lv_iadd hx hb dX0_gatherWidest_90 ?_
            refine va_put (D := D) (ci := 0) (v := .int (bsz + (1 : Int32))) (ty := .int) (C := RX0) (T := TX0) (N := 6) hx hb hts tnX0 tyX0 tyX0_ok nmX0 hown hK hP hD hS 0 rfl rfl 2 (by decide) (hts _ qw_278) (fun _ h9 => h9) rfl (by decide +kernel) rfl rfl (Nat.le_of_ble_eq_true rfl) dX0_gatherWidest_91 (fun H locs hP hD hS => ?_)
            have hP : va_P D vwCl (wdB cJ cI oB oBw oF oFr oFs oFc oFw (bsz + (1 : Int32)) bfi bla bar (vp_updL bwi bsz.toNatClampNeg r5) fw fc fwh fbo fra fst fco fro) H := hP
            have hD : va_D A (wdB cJ cI oB oBw oF oFr oFs oFc oFw (bsz + (1 : Int32)) bfi bla bar (vp_updL bwi bsz.toNatClampNeg r5) fw fc fwh fbo fra fst fco fro) := hD
            have hi9 := Option.some.inj hi9
            have e9 : j7 = (bsz + (1 : Int32)) := (congrArg (fun q => q.1) hi9).symm
            rw [e9] at key10
            have e9 : j8 = (vp_updL bwi bsz.toNatClampNeg r5) := (congrArg (fun q => q.2) hi9).symm
            rw [e9] at key10
            exact key10 ls (lv_sub hl [1, 2, 3, 4] rfl) _ _ hP hD hS
set_option maxHeartbeats 4000000 in
set_option maxRecDepth 100000 in
theorem wX0_gatherWidest_L7 {n : Nat} {v1 : Int64} (hx : p.tables.exec = Jvm.exec) (hb : c.code = cX0_gatherWidest) (hml : c.maxLocals = 7) (hown : s.vm.findClass RX0 = some m.cls) (hts : ∀ w ∈ tw, w.before args s = true) (hK : va_K D vwCl [(cI, .int), (cJ, .long)] s) (hA : ∀ q, s.heap.size ≤ q → A q) (hZ : stZ A tS tA s s.heap) (hR : 2 ≤ R.frames ∧ 55 ≤ R.locals ∧ cells ≤ R.cells ∧ slots ≤ R.slots) : ∀ (k : Nat) (v3 : Int32) (bsz : Int32) (bwi : Nat → Int64) (x_bsz : Int32) (x_bwi : Nat → Int64), mX0_gatherWidest_L7 n fc fco fro fw v1 fst fra k v3 bsz bwi = some (x_bsz, x_bwi) → ∀ ls : Array Slot, lv_has ls 7 [(0, .ref oB), (1, .long v1), (3, .int v3)] → ∀ (H : Heap) (locs : List Loc), va_P D vwCl (wdB cJ cI oB oBw oF oFr oFs oFc oFw bsz bfi bla bar bwi fw fc fwh fbo fra fst fco fro) H → va_D A (wdB cJ cI oB oBw oF oFr oFs oFc oFw bsz bfi bla bar bwi fw fc fwh fbo fra fst fco fro) → va_S A s.heap H locs → (∀ ls : Array Slot, lv_has ls 7 [] → ∀ (H : Heap) (locs : List Loc), va_P D vwCl (wdB cJ cI oB oBw oF oFr oFs oFc oFw x_bsz bfi bla bar x_bwi fw fc fwh fbo fra fst fco fro) H → va_D A (wdB cJ cI oB oBw oF oFr oFs oFc oFw x_bsz bfi bla bar x_bwi fw fc fwh fbo fra fst fco fro) → va_S A s.heap H locs → W p l e R s m args below meth c H locs cells slots Q (F0 m 106 ls [])) → W p l e R s m args below meth c H locs cells slots Q (F0 m 7 ls []) := by
  intro k
  induction k with
  | zero => intro v3 bsz bwi x_bsz x_bwi hm; rw [mX0_gatherWidest_L7] at hm; cases hm
  | succ k ih =>
    intro v3 bsz bwi x_bsz x_bwi hm ls hl H locs hP hD hS K0
    rw [mX0_gatherWidest_L7] at hm
    refine lv_iload_n hx hb dX0_gatherWidest_7 rfl (lv_at hl 2 rfl) ?_
    refine lv_aload_n hx hb dX0_gatherWidest_8 rfl (lv_at hl 0 rfl) ?_
    refine va_get (D := D) (ci := 0) (v := .ref oF) (C := RX0) (T := TX0) (N := 6) hx hb hts tnX0 hown hK hP 0 rfl rfl 0 (by decide) (hts _ qw_262) (fun _ h9 => h9) rfl dX0_gatherWidest_9 ?_
    refine va_get (D := D) (ci := 1) (v := .int fc) (C := RX1) (T := TX1) (N := 8) hx hb hts tnX1 hown hK hP 2 rfl rfl 1 (by decide) (hts _ qw_269) (fun _ h9 => h9) rfl dX0_gatherWidest_12 ?_
    refine lv_icmp_ge (tgt := 106) hx hb dX0_gatherWidest_15 (by decide) (fun c2 => ?_) (fun c2 => ?_)
    · rw [if_pos c2] at hm
      have hm := Option.some.inj hm
      have e9 : x_bsz = bsz := (congrArg (fun q => q.1) hm).symm
      rw [e9] at K0
      have e9 : x_bwi = bwi := (congrArg (fun q => q.2) hm).symm
      rw [e9] at K0
      exact K0 ls (lv_sub hl [] rfl) _ _ hP hD hS
    · rw [if_neg c2] at hm
      refine lv_iload_n hx hb dX0_gatherWidest_18 rfl (lv_at hl 2 rfl) ?_
      refine lv_istore (lv' := [(4, .int v3), (0, .ref oB), (1, .long v1), (3, .int v3)]) hx hb dX0_gatherWidest_19 hl (by decide) rfl (fun ls hl => ?_)
      obtain ⟨y17, y18, h19, hm⟩ := jb_out2 hm
      refine wX0_gatherWidest_L21 hx hb hml hown hts hK hA hZ hR n _ _ _ _ _  h19 ls (lv_sub hl [1, 2, 3, 0] rfl) _ _ hP hD hS (fun ls hl H locs hP hD hS => ?_)
      refine lv_iinc (v := (v3 + (1 : Int32))) (lv' := [(3, .int (v3 + (1 : Int32))), (0, .ref oB), (1, .long v1)]) hx hb dX0_gatherWidest_100 hl (k := 2) rfl (by rfl) (by decide) rfl (fun ls hl => ?_)
      refine lv_goto (tgt := 7) hx hb dX0_gatherWidest_103 (by decide) ?_
      exact ih _ _ _ _ _ hm ls (lv_sub hl [1, 2, 0] rfl) _ _ hP hD hS K0
set_option maxHeartbeats 4000000 in
set_option maxRecDepth 100000 in
theorem bX0_gatherWidest {n : Nat} {a1 : Int64} {y_bsz : (Int32)} {y_bwi : (Nat → Int64)} (hx : p.tables.exec = Jvm.exec) (hb : c.code = cX0_gatherWidest) (hml : c.maxLocals = 7) (hown : s.vm.findClass RX0 = some m.cls) (hts : ∀ w ∈ tw, w.before args s = true) (hK : va_K D vwCl [(cI, .int), (cJ, .long)] s) (hA : ∀ q, s.heap.size ≤ q → A q) (hZ : stZ A tS tA s s.heap) (hR : 2 ≤ R.frames ∧ 55 ≤ R.locals ∧ cells ≤ R.cells ∧ slots ≤ R.slots) (hm : mX0_gatherWidest n fc fco fro fw fst fra bwi a1 = some (y_bsz, y_bwi)) (ls : Array Slot) (hl : lv_has ls 7 [(0, .ref oB), (1, .long a1)]) (hP : va_P D vwCl (wdB cJ cI oB oBw oF oFr oFs oFc oFw bsz bfi bla bar bwi fw fc fwh fbo fra fst fco fro) H) (hD : va_D A (wdB cJ cI oB oBw oF oFr oFs oFc oFw bsz bfi bla bar bwi fw fc fwh fbo fra fst fco fro)) (hS : va_S A s.heap H locs) (K : ∀ (pc : Nat) (ls : Array Slot) (H : Heap) (locs : List Loc), decode cX0_gatherWidest pc = .ok (.return_, 1) → va_P D vwCl (wdB cJ cI oB oBw oF oFr oFs oFc oFw y_bsz bfi bla bar y_bwi fw fc fwh fbo fra fst fco fro) H → va_D A (wdB cJ cI oB oBw oF oFr oFs oFc oFw y_bsz bfi bla bar y_bwi fw fc fwh fbo fra fst fco fro) → va_S A s.heap H locs → W p l e R s m args below meth c H locs cells slots Q (F0 m pc ls [])) : W p l e R s m args below meth c H locs cells slots Q (F0 m 0 ls []) := by
  unfold mX0_gatherWidest at hm
  refine lv_aload_n hx hb dX0_gatherWidest_0 rfl (lv_at hl 0 rfl) ?_
  refine lv_iconst (v := (0 : Int32)) hx hb dX0_gatherWidest_1 (by decide) ?_
  refine va_put (D := D) (ci := 0) (v := .int (0 : Int32)) (ty := .int) (C := RX0) (T := TX0) (N := 6) hx hb hts tnX0 tyX0 tyX0_ok nmX0 hown hK hP hD hS 0 rfl rfl 2 (by decide) (hts _ qw_278) (fun _ h9 => h9) rfl (by decide +kernel) rfl rfl (Nat.le_of_ble_eq_true rfl) dX0_gatherWidest_2 (fun H locs hP hD hS => ?_)
  have hP : va_P D vwCl (wdB cJ cI oB oBw oF oFr oFs oFc oFw (0 : Int32) bfi bla bar bwi fw fc fwh fbo fra fst fco fro) H := hP
  have hD : va_D A (wdB cJ cI oB oBw oF oFr oFs oFc oFw (0 : Int32) bfi bla bar bwi fw fc fwh fbo fra fst fco fro) := hD
  refine lv_iconst (v := (0 : Int32)) hx hb dX0_gatherWidest_5 (by decide) ?_
  refine lv_istore_n (lv' := [(3, .int (0 : Int32)), (0, .ref oB), (1, .long a1)]) hx hb dX0_gatherWidest_6 rfl hl (by decide) rfl (fun ls hl => ?_)
  obtain ⟨y20, y21, h22, hm⟩ := jb_out2 hm
  refine wX0_gatherWidest_L7 hx hb hml hown hts hK hA hZ hR n _ _ _ _ _  h22 ls (lv_sub hl [1, 2, 0] rfl) _ _ hP hD hS (fun ls hl H locs hP hD hS => ?_)
  have hm := Option.some.inj hm
  have e9 : y_bsz = y20 := (congrArg (fun q => q.1) hm).symm
  rw [e9] at K
  have e9 : y_bwi = y21 := (congrArg (fun q => q.2) hm).symm
  rw [e9] at K
  exact K 106 ls _ _ dX0_gatherWidest_106 hP hD hS
set_option maxHeartbeats 4000000 in
set_option maxRecDepth 100000 in
theorem tX0_gatherWidest (l : Launch) {D : va_G} (sz : Nat) {n : Nat} {a1 : Int64} {y_bsz : (Int32)} {y_bwi : (Nat → Int64)} (hm : mX0_gatherWidest n fc fco fro fw fst fra bwi a1 = some (y_bsz, y_bwi)) : Met l yX0_gatherWidest (.code yX0_gatherWidest cX0_gatherWidest 7 none :: tw) ({ frames := 2, cells := 0, slots := 0, locals := 55 } : Room) (wrZ D [.ref oB, .long a1] (wdB cJ cI oB oBw oF oFr oFs oFc oFw bsz bfi bla bar bwi fw fc fwh fbo fra fst fco fro) [(cI, .int), (cJ, .long)] tS tA sz) (va_Qv (fun (_ : Unit) => True) (fun (_ : Unit) (t : State) => va_P D vwCl (wdB cJ cI oB oBw oF oFr oFs oFc oFw y_bsz bfi bla bar y_bwi fw fc fwh fbo fra fst fco fro) t.heap ∧ va_K D vwCl [(cI, .int), (cJ, .long)] t ∧ va_D (va_A (wdB cJ cI oB oBw oF oFr oFs oFc oFw bsz bfi bla bar bwi fw fc fwh fbo fra fst fco fro) sz) (wdB cJ cI oB oBw oF oFr oFs oFc oFw y_bsz bfi bla bar y_bwi fw fc fwh fbo fra fst fco fro)) (va_A (wdB cJ cI oB oBw oF oFr oFs oFc oFw bsz bfi bla bar bwi fw fc fwh fbo fra fst fco fro) sz)) 0 0 (va_A (wdB cJ cI oB oBw oF oFr oFs oFc oFw bsz bfi bla bar bwi fw fc fwh fbo fra fst fco fro) sz) := by
  refine Met.ofW (cc := cX0_gatherWidest) (maxL := 7) (ret := none) (by decide) rfl ?_
  intro p e s m args below meth c s₁ B hml hv
  obtain ⟨rfl, hsz, hP, hK, hD0, hZ⟩ := hv
  have hx := B.exec
  have hb := B.bytes
  have hr := B.returns
  have hts : ∀ w ∈ tw, w.before _ s = true := fun w h => atoms_spec (ws := .code yX0_gatherWidest cX0_gatherWidest 7 none :: tw) B.pre w (List.mem_cons_of_mem _ h)
  have hown : s.vm.findClass RX0 = some m.cls := findClass_of_methodNamed B.named
  have hlocks := B.notSynchronized
  subst hsz
  have hD := hD0.self (sz := s.heap.size)
  have hl := lv_entry ([.ref oB, .long a1]) (n := 7) (Nat.le_of_ble_eq_true rfl)
  rw [lg_entry_eq]
  generalize (lg_sl ([.ref oB, .long a1]) ++ List.replicate (7 - (lg_sl ([.ref oB, .long a1])).length) Slot.unset).toArray = ls at hl ⊢
  refine bX0_gatherWidest hx hb hml hown hts hK (fun q h => Or.inr h) hZ ⟨Nat.le_of_ble_eq_true rfl, Nat.le_of_ble_eq_true rfl, Nat.zero_le _, Nat.zero_le _⟩ hm ls hl hP hD va_S.rf (fun pc ls H locs hd hP hD hS => ?_)
  exact W.vret hx hb hr (fun t ht hW => ⟨⟨(), rfl, trivial, by rw [ht]; exact hP, va_K.moved hW.alike hK, hD⟩, hS.F ht⟩) hS.2.2 hd
set_option maxHeartbeats 4000000 in
set_option maxRecDepth 100000 in
theorem kX0_gatherWidest {own : String} {cc : ByteArray} {nL idx pc : Nat} {ls : Array Slot} {rest : List Value} {ws wr : va_W} {n : Nat} {a1 : Int64} {y_bsz : (Int32)} {y_bwi : (Nat → Int64)} (fx : CallFix p m c cc nL s args tw own) (hq : Cond.methodLink own idx yX0_gatherWidest ∈ tw) (isC isR : List Nat) (hC : isC.map (fun i => ws[i]?) = ((wdB cJ cI oB oBw oF oFr oFs oFc oFw bsz bfi bla bar bwi fw fc fwh fbo fra fst fco fro) : va_W).map some) (hRr : isR.map (fun i => ws[i]?) = wr.map some) (hnC : va_nd isC = true) (hn : va_nd isR = true) (hdis : ∀ i ∈ isR, i ∉ isC) (hK : va_K D vwCl [(cI, .int), (cJ, .long)] s) (hZ : stZ A tS tA s s.heap) (hm : mX0_gatherWidest n fc fco fro fw fst fra bwi a1 = some (y_bsz, y_bwi)) (hsz : ls.size = nL) (hR : 3 ≤ R.frames ∧ 81 ≤ R.locals ∧ cells ≤ R.cells ∧ slots ≤ R.slots) (hst : (rest.map fun v => v.category).sum ≤ 8) (hd : decode cc pc = .ok (.invokevirtual idx, 3)) (hP : va_P D vwCl ws H) (hD : va_D A ws) (hS : va_S A s.heap H locs) (hA : ∀ q, s.heap.size ≤ q → A q) (kk : ∀ (H : Heap) (locs : List Loc), va_P D vwCl (wr ++ (wdB cJ cI oB oBw oF oFr oFs oFc oFw y_bsz bfi bla bar y_bwi fw fc fwh fbo fra fst fco fro)) H → va_D A (wr ++ (wdB cJ cI oB oBw oF oFr oFs oFc oFw y_bsz bfi bla bar y_bwi fw fc fwh fbo fra fst fco fro)) → va_S A s.heap H locs → W p l e R s m args below meth c H locs cells slots Q (F0 m (pc + 3) ls (rest))) : W p l e R s m args below meth c H locs cells slots Q (F0 m pc ls (.long a1 :: .ref oB :: rest)) := by
  have hPc := va_P.subM hP isC hC
  have hDc := hD.sub isC hnC hC
  have hFc := va_free (wc := (wdB cJ cI oB oBw oF oFr oFs oFc oFw bsz bfi bla bar bwi fw fc fwh fbo fra fst fco fro)) hD hS hA isC hC
  refine va_callv (va_runV (As := [.long a1]) (rest := rest) fx (tX0_gatherWidest l H.size hm) (cwV 1 fx.2.2.2.2 (tw_V hq qw_385 qw_386 qw_267 qw_387) rfl rfl rfl (by decide +kernel) ⟨hR.1, hR.2.1⟩) ⟨wrZ_bl, va_recv hK hPc (ci := 0) (q0 := 0) rfl rfl, wrZ_ok hPc hK hDc (stZ_in hZ hS hFc)⟩ rfl rfl hsz rfl (lv_room hst) hd ⟨hR.2.2.1, hR.2.2.2⟩) hS (fun q _ h => hFc q h) hFc (fun u t H1 locs ht hvm hw hB hz1 hk1 hS => ?_)
  obtain ⟨hP1, hK1, hD1⟩ := hB
  rw [ht] at hP1
  obtain ⟨hP2, hD2⟩ := va_join (wr := wr) (w1 := (wdB cJ cI oB oBw oF oFr oFs oFc oFw y_bsz bfi bla bar y_bwi fw fc fwh fbo fra fst fco fro)) hP hD isC isR hC hRr hn hdis hk1 hFc hP1 hD1
  exact kk H1 locs hP2 hD2 hS
end
