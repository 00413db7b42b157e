theorem qw_349 : Cond.methodLink RX7 159 yX3_howMany ∈ tw := tw_of (by decide +kernel) rfl
theorem qw_350 : Cond.methodLink RX7 162 yX3_howManyHoles ∈ tw := tw_of (by decide +kernel) rfl
theorem qw_351 : Cond.methodLink RX7 165 yX1_sidesOf ∈ tw := tw_of (by decide +kernel) rfl
theorem qw_352 : Cond.instanceMethod yX7_count ∈ tw := tw_of (by decide +kernel) rfl
theorem qw_353 : Cond.selects RX7 yX7_count yX7_count ∈ tw := tw_of (by decide +kernel) rfl
theorem qw_354 : Cond.code yX7_count cX7_count 3 (some .int) ∈ tw := tw_of (by decide +kernel) rfl
theorem qw_355 : Cond.fieldLink RX7 66 "WornShapes" "rooms" "LWornShapes$Boxes;" ∈ tw := tw_of (by decide +kernel) rfl
theorem qw_356 : Cond.methodLink RX7 196 yX0_howMany ∈ tw := tw_of (by decide +kernel) rfl
theorem qw_357 : Cond.instanceMethod yX7_boxes ∈ tw := tw_of (by decide +kernel) rfl
theorem qw_358 : Cond.selects RX7 yX7_boxes yX7_boxes ∈ tw := tw_of (by decide +kernel) rfl
theorem qw_359 : Cond.code yX7_boxes cX7_boxes 3 (some .int) ∈ tw := tw_of (by decide +kernel) rfl
theorem qw_360 : Cond.methodLink RX7 215 yX0_howManyWidestAt ∈ tw := tw_of (by decide +kernel) rfl
theorem qw_361 : Cond.instanceMethod yX7_alone ∈ tw := tw_of (by decide +kernel) rfl
theorem qw_362 : Cond.selects RX7 yX7_alone yX7_alone ∈ tw := tw_of (by decide +kernel) rfl
theorem qw_363 : Cond.code yX7_alone cX7_alone 3 (some .int) ∈ tw := tw_of (by decide +kernel) rfl
section
variable {A : Nat → Prop} {p : Program} {l : Launch} {e : Env} {R : Room} {s : State} {m : MethodId} {args : Array Value} {below : List Frame} {meth : Method} {c : Code} {H : Heap} {locs : List Loc} {cells slots : Nat} {Q : State → Prop} {D : va_G} {oF : Nat} {oFr : Nat} {oFs : Nat} {oFc : Nat} {oFw : Nat} {oS : Nat} {oSs : Nat} {oG : Nat} {oGa : Nat} {oQ : Nat} {oQw : Nat} {oI : Nat} {oR : Nat} {oRh : Nat} {oRm : Nat} {oB : Nat} {oBw : Nat} {oX : Nat} {oXp : Nat} {oXg : Nat} {oG0 : Nat} {oGa0 : Nat} {oG1 : Nat} {oGa1 : Nat} {oG2 : Nat} {oGa2 : Nat} {oM : Nat} {oM1 : Nat} {oM2 : Nat} {oM3 : Nat} {oM4 : Nat} {oM5 : Nat} {oM6 : Nat} {oM7 : Nat} {oM8 : Nat} {oM9 : Nat} {oM10 : Nat} {oM11 : Nat} {tS : Nat} {tA : Nat} {cI : ClassId} {cJ : ClassId} {cG : ClassId} {fw : Int32} {fc : Int32} {fwh : Int64} {fbo : Int64} {fra : Nat → Int32} {fco : Nat → Int32} {fro : Nat → Int32} {fst : Nat → Int64} {srim : Int32} {sst : Nat → Int32} {gsz : Int32} {gac : Nat → Int32} {qln : Int32} {qwy : Nat → Int32} {ijn : Int32} {rsz : Int32} {rhi : Nat → Int32} {rmi : Nat → Int32} {bsz : Int32} {bfi : Int32} {bla : Int32} {bar : Int32} {bwi : Nat → Int64} {xpi : Nat → Int64} {gs0 : Int32} {gs1 : Int32} {gs2 : Int32} {ga0 : Nat → Int32} {ga1 : Nat → Int32} {ga2 : Nat → Int32} {mw : Int32} {mt : Int32} {mrim : Int32} {mjn : Int32} {mhm : Int32} {mpn : Int32} {mbm : Int32} {mgm : Int32} {mpi : Nat → Int64} {mbe : Nat → Int64} {mgr : Nat → Int64} {mle : Nat → Int64} {mst : Nat → Int32} {mam : Nat → Int32} {mac : Nat → Int32} {mro : Nat → Int32} {mhi : Nat → Int32} {mmi : Nat → Int32} {mtr : Nat → Int32}
-- X7_count
def mX7_count (n : Nat) (fc : Int32) (fra : Nat → Int32) (fst : Nat → Int64) (ijn : Int32) (xpi : Nat → Int64) (fwh : Int64) (fbo : Int64) (a1 : Int32) (a2 : Int32) : Option Int32 :=
  (if (mX7_isPicture a1) = 0 then (some (-1 : Int32)) else (if a2 = (0 : Int32) then gd (ib a1 5) (jb (mX3_howMany n fc fra fst ijn (xpi a1.toNatClampNeg)) (fun (r5 : Int32) => (some r5))) else (if a2 = (1 : Int32) then gd (ib a1 5) (jb (mX3_howManyHoles n fc fra fst fwh fbo ijn (xpi a1.toNatClampNeg)) (fun (r9 : Int32) => (some r9))) else (if a2 = (2 : Int32) then gd (ib a1 5) (jb (mX1_sidesOf n fra fst (xpi a1.toNatClampNeg)) (fun (r13 : Int32) => (some r13))) else (if a2 = (3 : Int32) then gd (ib a1 5) ((some (mJ13_bitCount_95d88 (xpi a1.toNatClampNeg)))) else (some (-2 : Int32)))))))
theorem dX7_count_0 : decode cX7_count 0 = .ok (.iload_n 1, 1) := by decide +kernel
theorem dX7_count_1 : decode cX7_count 1 = .ok (.invokestatic 81, 3) := by decide +kernel
theorem dX7_count_4 : decode cX7_count 4 = .ok (.ifCond .ne 5, 3) := by decide +kernel
theorem dX7_count_7 : decode cX7_count 7 = .ok (.iconst (-1), 1) := by decide +kernel
theorem dX7_count_8 : decode cX7_count 8 = .ok (.ireturn, 1) := by decide +kernel
theorem dX7_count_9 : decode cX7_count 9 = .ok (.iload_n 2, 1) := by decide +kernel
theorem dX7_count_10 : decode cX7_count 10 = .ok (.tableswitch 82 0 3 #[30, 44, 58, 72], 30) := by decide +kernel
theorem dX7_count_40 : decode cX7_count 40 = .ok (.aload_n 0, 1) := by decide +kernel
theorem dX7_count_41 : decode cX7_count 41 = .ok (.getfield 50, 3) := by decide +kernel
theorem dX7_count_44 : decode cX7_count 44 = .ok (.aload_n 0, 1) := by decide +kernel
theorem dX7_count_45 : decode cX7_count 45 = .ok (.getfield 18, 3) := by decide +kernel
theorem dX7_count_48 : decode cX7_count 48 = .ok (.iload_n 1, 1) := by decide +kernel
theorem dX7_count_49 : decode cX7_count 49 = .ok (.laload, 1) := by decide +kernel
theorem dX7_count_50 : decode cX7_count 50 = .ok (.invokevirtual 159, 3) := by decide +kernel
theorem dX7_count_53 : decode cX7_count 53 = .ok (.ireturn, 1) := by decide +kernel
theorem dX7_count_54 : decode cX7_count 54 = .ok (.aload_n 0, 1) := by decide +kernel
theorem dX7_count_55 : decode cX7_count 55 = .ok (.getfield 50, 3) := by decide +kernel
theorem dX7_count_58 : decode cX7_count 58 = .ok (.aload_n 0, 1) := by decide +kernel
theorem dX7_count_59 : decode cX7_count 59 = .ok (.getfield 18, 3) := by decide +kernel
theorem dX7_count_62 : decode cX7_count 62 = .ok (.iload_n 1, 1) := by decide +kernel
theorem dX7_count_63 : decode cX7_count 63 = .ok (.laload, 1) := by decide +kernel
theorem dX7_count_64 : decode cX7_count 64 = .ok (.invokevirtual 162, 3) := by decide +kernel
theorem dX7_count_67 : decode cX7_count 67 = .ok (.ireturn, 1) := by decide +kernel
theorem dX7_count_68 : decode cX7_count 68 = .ok (.aload_n 0, 1) := by decide +kernel
theorem dX7_count_69 : decode cX7_count 69 = .ok (.getfield 14, 3) := by decide +kernel
theorem dX7_count_72 : decode cX7_count 72 = .ok (.aload_n 0, 1) := by decide +kernel
theorem dX7_count_73 : decode cX7_count 73 = .ok (.getfield 18, 3) := by decide +kernel
theorem dX7_count_76 : decode cX7_count 76 = .ok (.iload_n 1, 1) := by decide +kernel
theorem dX7_count_77 : decode cX7_count 77 = .ok (.laload, 1) := by decide +kernel
theorem dX7_count_78 : decode cX7_count 78 = .ok (.invokevirtual 165, 3) := by decide +kernel
theorem dX7_count_81 : decode cX7_count 81 = .ok (.ireturn, 1) := by decide +kernel
theorem dX7_count_82 : decode cX7_count 82 = .ok (.aload_n 0, 1) := by decide +kernel
theorem dX7_count_83 : decode cX7_count 83 = .ok (.getfield 18, 3) := by decide +kernel
theorem dX7_count_86 : decode cX7_count 86 = .ok (.iload_n 1, 1) := by decide +kernel
theorem dX7_count_87 : decode cX7_count 87 = .ok (.laload, 1) := by decide +kernel
theorem dX7_count_88 : decode cX7_count 88 = .ok (.invokestatic 99, 3) := by decide +kernel
theorem dX7_count_91 : decode cX7_count 91 = .ok (.ireturn, 1) := by decide +kernel
theorem dX7_count_92 : decode cX7_count 92 = .ok (.bipush (-2), 2) := by decide +kernel
theorem dX7_count_94 : decode cX7_count 94 = .ok (.ireturn, 1) := by decide +kernel
set_option maxHeartbeats 4000000 in
set_option maxRecDepth 100000 in
theorem bX7_count {n : Nat} {a1 : Int32} {a2 : Int32} {r : Int32} (hx : p.tables.exec = Jvm.exec) (hb : c.code = cX7_count) (hml : c.maxLocals = 3) (hown : s.vm.findClass RX7 = some m.cls) (hts : ∀ w ∈ tw, w.before args s = true) (hK : va_K D vwCl [(cI, .int), (cJ, .long), (cG, .object "WornShapes$Program")] s) (hP : va_P D vwCl (wdX cJ cG cI oX oXp oXg oG0 oGa0 oG1 oGa1 oG2 oGa2 oQ oQw oI oR oRh oRm oB oBw oS oSs oF oFr oFs oFc oFw xpi gs0 ga0 gs1 ga1 gs2 ga2 qln qwy ijn rsz rhi rmi bsz bfi bla bar bwi srim sst fw fc fwh fbo fra fst fco fro) H) (hZ : stZ (fun _ => False) tS tA s s.heap) (hSz : va_S (fun _ => False) s.heap H locs) (hR : 5 ≤ R.frames ∧ 132 ≤ R.locals ∧ cells ≤ R.cells ∧ slots ≤ R.slots) (hm : mX7_count n fc fra fst ijn xpi fwh fbo a1 a2 = some r) (ls : Array Slot) (hl : lv_has ls 3 [(0, .ref oX), (1, .int a1), (2, .int a2)]) (K : ∀ (pc : Nat) (ls : Array Slot), decode cX7_count pc = .ok (.ireturn, 1) → W p l e R s m args below meth c H locs cells slots Q (F0 m pc ls [.int r])) : W p l e R s m args below meth c H locs cells slots Q (F0 m 0 ls []) := by
  unfold mX7_count at hm
  refine lv_iload_n hx hb dX7_count_0 rfl (lv_at hl 1 rfl) ?_
  refine kX7_isPicture ⟨hx, hb, hml, hown, hts⟩ qw_301 hl.1 ⟨Nat.le_trans (by decide) hR.1, Nat.le_trans (by decide) hR.2.1, hR.2.2⟩ (Nat.le_of_ble_eq_true rfl) dX7_count_1 ?_
  refine lv_if_ne (tgt := 9) hx hb dX7_count_4 (by decide) (fun c2 => ?_) (fun c2 => ?_)
  · rw [if_neg c2] at hm
    refine lv_iload_n hx hb dX7_count_9 rfl (lv_at hl 2 rfl) ?_
    by_cases c3 : a2 = (0 : Int32)
    · rw [if_pos c3] at hm
      refine lv_tableIn (tgt := 40) hx hb dX7_count_10 (by rw [c3]; decide) (by rw [c3]; decide) (by rw [c3]; rfl) (by decide) ?_
      refine lv_aload_n hx hb dX7_count_40 rfl (lv_at hl 0 rfl) ?_
      refine va_get (D := D) (ci := 7) (v := .ref oI) (C := RX7) (T := TX7) (N := 8) hx hb hts tnX7 hown hK hP 0 rfl rfl 5 (by decide) (hts _ qw_325) (fun _ h9 => h9) rfl dX7_count_41 ?_
      refine lv_aload_n hx hb dX7_count_44 rfl (lv_at hl 0 rfl) ?_
      refine va_get (D := D) (ci := 7) (v := .ref oXp) (C := RX7) (T := TX7) (N := 8) hx hb hts tnX7 hown hK hP 0 rfl rfl 1 (by decide) (hts _ qw_297) (fun _ h9 => h9) rfl dX7_count_45 ?_
      refine lv_iload_n hx hb dX7_count_48 rfl (lv_at hl 1 rfl) ?_
      obtain ⟨g4, hm⟩ := gd_out hm
      refine va_lald hx hb hK hP 1 1 rfl rfl g4 dX7_count_49 ?_
      obtain ⟨r5, h6, hm⟩ := jb_out hm
      refine kX3_howMany ⟨hx, hb, hml, hown, hts⟩ qw_349 (hP.sub (ws' := (wdI cI cJ oI oF oFr oFs oFc oFw ijn fw fc fwh fbo fra fst fco fro)) [11, 19, 20, 21, 22, 23] rfl) (hK.sub (tys' := [(cI, .int), (cJ, .long)]) [0, 1] rfl) h6 hl.1 ⟨Nat.le_trans (by decide) hR.1, Nat.le_trans (by decide) hR.2.1, hR.2.2⟩ (Nat.le_of_ble_eq_true rfl) dX7_count_50 ?_
      have hm := Option.some.inj hm
      subst hm
      exact K 53 ls dX7_count_53
    rw [if_neg c3] at hm
    by_cases c7 : a2 = (1 : Int32)
    · rw [if_pos c7] at hm
      refine lv_tableIn (tgt := 54) hx hb dX7_count_10 (by rw [c7]; decide) (by rw [c7]; decide) (by rw [c7]; rfl) (by decide) ?_
      refine lv_aload_n hx hb dX7_count_54 rfl (lv_at hl 0 rfl) ?_
      refine va_get (D := D) (ci := 7) (v := .ref oI) (C := RX7) (T := TX7) (N := 8) hx hb hts tnX7 hown hK hP 0 rfl rfl 5 (by decide) (hts _ qw_325) (fun _ h9 => h9) rfl dX7_count_55 ?_
      refine lv_aload_n hx hb dX7_count_58 rfl (lv_at hl 0 rfl) ?_
      refine va_get (D := D) (ci := 7) (v := .ref oXp) (C := RX7) (T := TX7) (N := 8) hx hb hts tnX7 hown hK hP 0 rfl rfl 1 (by decide) (hts _ qw_297) (fun _ h9 => h9) rfl dX7_count_59 ?_
      refine lv_iload_n hx hb dX7_count_62 rfl (lv_at hl 1 rfl) ?_
      obtain ⟨g8, hm⟩ := gd_out hm
      refine va_lald hx hb hK hP 1 1 rfl rfl g8 dX7_count_63 ?_
      obtain ⟨r9, h10, hm⟩ := jb_out hm
      refine kX3_howManyHoles ⟨hx, hb, hml, hown, hts⟩ qw_350 (hP.sub (ws' := (wdI cI cJ oI oF oFr oFs oFc oFw ijn fw fc fwh fbo fra fst fco fro)) [11, 19, 20, 21, 22, 23] rfl) (hK.sub (tys' := [(cI, .int), (cJ, .long)]) [0, 1] rfl) h10 hl.1 ⟨Nat.le_trans (by decide) hR.1, Nat.le_trans (by decide) hR.2.1, hR.2.2⟩ (Nat.le_of_ble_eq_true rfl) dX7_count_64 ?_
      have hm := Option.some.inj hm
      subst hm
      exact K 67 ls dX7_count_67
    rw [if_neg c7] at hm
    by_cases c11 : a2 = (2 : Int32)
    · rw [if_pos c11] at hm
      refine lv_tableIn (tgt := 68) hx hb dX7_count_10 (by rw [c11]; decide) (by rw [c11]; decide) (by rw [c11]; rfl) (by decide) ?_
      refine lv_aload_n hx hb dX7_count_68 rfl (lv_at hl 0 rfl) ?_
      refine va_get (D := D) (ci := 7) (v := .ref oF) (C := RX7) (T := TX7) (N := 8) hx hb hts tnX7 hown hK hP 0 rfl rfl 0 (by decide) (hts _ qw_302) (fun _ h9 => h9) rfl dX7_count_69 ?_
      refine lv_aload_n hx hb dX7_count_72 rfl (lv_at hl 0 rfl) ?_
      refine va_get (D := D) (ci := 7) (v := .ref oXp) (C := RX7) (T := TX7) (N := 8) hx hb hts tnX7 hown hK hP 0 rfl rfl 1 (by decide) (hts _ qw_297) (fun _ h9 => h9) rfl dX7_count_73 ?_
      refine lv_iload_n hx hb dX7_count_76 rfl (lv_at hl 1 rfl) ?_
      obtain ⟨g12, hm⟩ := gd_out hm
      refine va_lald hx hb hK hP 1 1 rfl rfl g12 dX7_count_77 ?_
      obtain ⟨r13, h14, hm⟩ := jb_out hm
      refine kX1_sidesOf ⟨hx, hb, hml, hown, hts⟩ qw_351 (hP.sub (ws' := (wdF cI cJ oF oFr oFs oFc oFw fw fc fwh fbo fra fst fco fro)) [19, 20, 21, 22, 23] rfl) (hK.sub (tys' := [(cI, .int), (cJ, .long)]) [0, 1] rfl) (stZ_at hZ hSz) h14 hl.1 ⟨Nat.le_trans (by decide) hR.1, Nat.le_trans (by decide) hR.2.1, hR.2.2⟩ (Nat.le_of_ble_eq_true rfl) dX7_count_78 ?_
      have hm := Option.some.inj hm
      subst hm
      exact K 81 ls dX7_count_81
    rw [if_neg c11] at hm
    by_cases c15 : a2 = (3 : Int32)
    · rw [if_pos c15] at hm
      refine lv_tableIn (tgt := 82) hx hb dX7_count_10 (by rw [c15]; decide) (by rw [c15]; decide) (by rw [c15]; rfl) (by decide) ?_
      refine lv_aload_n hx hb dX7_count_82 rfl (lv_at hl 0 rfl) ?_
      refine va_get (D := D) (ci := 7) (v := .ref oXp) (C := RX7) (T := TX7) (N := 8) hx hb hts tnX7 hown hK hP 0 rfl rfl 1 (by decide) (hts _ qw_297) (fun _ h9 => h9) rfl dX7_count_83 ?_
      refine lv_iload_n hx hb dX7_count_86 rfl (lv_at hl 1 rfl) ?_
      obtain ⟨g16, hm⟩ := gd_out hm
      refine va_lald hx hb hK hP 1 1 rfl rfl g16 dX7_count_87 ?_
      refine kJ13_bitCount_95d88 ⟨hx, hb, hml, hown, hts⟩ qw_314 hl.1 ⟨Nat.le_trans (by decide) hR.1, Nat.le_trans (by decide) hR.2.1, hR.2.2⟩ (Nat.le_of_ble_eq_true rfl) dX7_count_88 ?_
      have hm := Option.some.inj hm
      subst hm
      exact K 91 ls dX7_count_91
    rw [if_neg c15] at hm
    refine lv_tableOut (tgt := 92) hx hb dX7_count_10 (tsw4 (by assumption) (by assumption) (by assumption) (by assumption)) (by decide) ?_
    refine lv_bipush (v := (-2 : Int32)) hx hb dX7_count_92 (by decide) ?_
    have hm := Option.some.inj hm
    subst hm
    exact K 94 ls dX7_count_94
  · rw [if_pos c2] at hm
    refine lv_iconst (v := (-1 : Int32)) hx hb dX7_count_7 (by decide) ?_
    have hm := Option.some.inj hm
    subst hm
    exact K 8 ls dX7_count_8
set_option maxHeartbeats 4000000 in
set_option maxRecDepth 100000 in
theorem tX7_count (l : Launch) {D : va_G} {n : Nat} {a1 : Int32} {a2 : Int32} {r : Int32} (hm : mX7_count n fc fra fst ijn xpi fwh fbo a1 a2 = some r) : Met l yX7_count (.code yX7_count cX7_count 3 (some .int) :: tw) ({ frames := 5, cells := 0, slots := 0, locals := 132 } : Room) (rdZ D [.ref oX, .int a1, .int a2] (wdX cJ cG cI oX oXp oXg oG0 oGa0 oG1 oGa1 oG2 oGa2 oQ oQw oI oR oRh oRm oB oBw oS oSs oF oFr oFs oFc oFw xpi gs0 ga0 gs1 ga1 gs2 ga2 qln qwy ijn rsz rhi rmi bsz bfi bla bar bwi srim sst fw fc fwh fbo fra fst fco fro) [(cI, .int), (cJ, .long), (cG, .object "WornShapes$Program")] tS tA) (vp_Si (fun q => q = r)) 0 0 (fun _ => False) := by
  refine Met.ofW (cc := cX7_count) (maxL := 3) (ret := (some .int)) (by decide) rfl ?_
  intro p e s m args below meth c s₁ B hml hv
  obtain ⟨rfl, hP, hK, hZ⟩ := hv
  have hx := B.exec
  have hb := B.bytes
  have hr := B.returns
  have hts : ∀ w ∈ tw, w.before _ s = true := fun w h => atoms_spec (ws := .code yX7_count cX7_count 3 (some .int) :: tw) B.pre w (List.mem_cons_of_mem _ h)
  have hown : s.vm.findClass RX7 = some m.cls := findClass_of_methodNamed B.named
  have hlocks := B.notSynchronized
  have hl := lv_entry ([.ref oX, .int a1, .int a2]) (n := 3) (Nat.le_of_ble_eq_true rfl)
  rw [lg_entry_eq]
  generalize (lg_sl ([.ref oX, .int a1, .int a2]) ++ List.replicate (3 - (lg_sl ([.ref oX, .int a1, .int a2])).length) Slot.unset).toArray = ls at hl ⊢
  refine bX7_count hx hb hml hown hts hK hP hZ va_S.rf ⟨Nat.le_of_ble_eq_true rfl, Nat.le_of_ble_eq_true rfl, Nat.zero_le _, Nat.zero_le _⟩ hm ls hl (fun pc ls hd => ?_)
  exact W.iret hx hb hr (fun t ht hW => ⟨r, rfl, rfl, ht⟩) (fun q h => by cases h) hd
set_option maxHeartbeats 4000000 in
set_option maxRecDepth 100000 in
theorem kX7_count {own : String} {cc : ByteArray} {nL idx pc : Nat} {ls : Array Slot} {rest : List Value} {n : Nat} {a1 : Int32} {a2 : Int32} {r : Int32} (fx : CallFix p m c cc nL s args tw own) (hq : Cond.methodLink own idx yX7_count ∈ tw) (hP : va_P D vwCl (wdX cJ cG cI oX oXp oXg oG0 oGa0 oG1 oGa1 oG2 oGa2 oQ oQw oI oR oRh oRm oB oBw oS oSs oF oFr oFs oFc oFw xpi gs0 ga0 gs1 ga1 gs2 ga2 qln qwy ijn rsz rhi rmi bsz bfi bla bar bwi srim sst fw fc fwh fbo fra fst fco fro) H) (hK : va_K D vwCl [(cI, .int), (cJ, .long), (cG, .object "WornShapes$Program")] s) (hz : stZ (fun _ => False) tS tA s H) (hm : mX7_count n fc fra fst ijn xpi fwh fbo a1 a2 = some r) (hsz : ls.size = nL) (hR : 6 ≤ R.frames ∧ 154 ≤ R.locals ∧ cells ≤ R.cells ∧ slots ≤ R.slots) (hst : (rest.map fun v => v.category).sum ≤ 8) (hd : decode cc pc = .ok (.invokevirtual idx, 3)) (kk : W p l e R s m args below meth c H locs cells slots Q (F0 m (pc + 3) ls (.int r :: rest))) : W p l e R s m args below meth c H locs cells slots Q (F0 m pc ls (.int a2 :: .int a1 :: .ref oX :: rest)) := by
  exact vp_callSi (va_Run.run (va_runV (As := [.int a1, .int a2]) (rest := rest) fx (tX7_count l hm) (cwV 2 fx.2.2.2.2 (tw_V hq qw_352 qw_353 qw_288 qw_354) rfl rfl rfl (by decide +kernel) ⟨hR.1, hR.2.1⟩) ⟨rdZ_bl, va_recv hK hP (ci := 7) (q0 := 0) rfl rfl, rdZ_ok hP hK hz⟩ rfl rfl hsz rfl (lv_room hst) hd ⟨hR.2.2.1, hR.2.2.2⟩)) (fun r9 hr9 => by first | (rw [hr9]; exact kk) | (rw [hr9.1]; exact kk))
-- X7_boxes
def mX7_boxes (n : Nat) (fc : Int32) (fco : Nat → Int32) (fro : Nat → Int32) (fw : Int32) (fst : Nat → Int64) (fra : Nat → Int32) (xpi : Nat → Int64) (a1 : Int32) (a2 : Int32) : Option Int32 :=
  (if (mX7_isPicture a1) = 0 then (some (-1 : Int32)) else gd (ib a1 5) (jb (mX0_howMany n fc fco fro fw fst fra (xpi a1.toNatClampNeg) a2) (fun (r4 : Int32) => (some r4))))
theorem dX7_boxes_0 : decode cX7_boxes 0 = .ok (.iload_n 1, 1) := by decide +kernel
theorem dX7_boxes_1 : decode cX7_boxes 1 = .ok (.invokestatic 81, 3) := by decide +kernel
theorem dX7_boxes_4 : decode cX7_boxes 4 = .ok (.ifCond .ne 5, 3) := by decide +kernel
theorem dX7_boxes_7 : decode cX7_boxes 7 = .ok (.iconst (-1), 1) := by decide +kernel
theorem dX7_boxes_8 : decode cX7_boxes 8 = .ok (.ireturn, 1) := by decide +kernel
theorem dX7_boxes_9 : decode cX7_boxes 9 = .ok (.aload_n 0, 1) := by decide +kernel
theorem dX7_boxes_10 : decode cX7_boxes 10 = .ok (.getfield 66, 3) := by decide +kernel
theorem dX7_boxes_13 : decode cX7_boxes 13 = .ok (.aload_n 0, 1) := by decide +kernel
theorem dX7_boxes_14 : decode cX7_boxes 14 = .ok (.getfield 18, 3) := by decide +kernel
theorem dX7_boxes_17 : decode cX7_boxes 17 = .ok (.iload_n 1, 1) := by decide +kernel
theorem dX7_boxes_18 : decode cX7_boxes 18 = .ok (.laload, 1) := by decide +kernel
theorem dX7_boxes_19 : decode cX7_boxes 19 = .ok (.iload_n 2, 1) := by decide +kernel
theorem dX7_boxes_20 : decode cX7_boxes 20 = .ok (.invokevirtual 196, 3) := by decide +kernel
theorem dX7_boxes_23 : decode cX7_boxes 23 = .ok (.ireturn, 1) := by decide +kernel
set_option maxHeartbeats 4000000 in
set_option maxRecDepth 100000 in
theorem bX7_boxes {n : Nat} {a1 : Int32} {a2 : Int32} {r : Int32} (hx : p.tables.exec = Jvm.exec) (hb : c.code = cX7_boxes) (hml : c.maxLocals = 3) (hown : s.vm.findClass RX7 = some m.cls) (hts : ∀ w ∈ tw, w.before args s = true) (hK : va_K D vwCl [(cI, .int), (cJ, .long), (cG, .object "WornShapes$Program")] s) (hP : va_P D vwCl (wdX cJ cG cI oX oXp oXg oG0 oGa0 oG1 oGa1 oG2 oGa2 oQ oQw oI oR oRh oRm oB oBw oS oSs oF oFr oFs oFc oFw xpi gs0 ga0 gs1 ga1 gs2 ga2 qln qwy ijn rsz rhi rmi bsz bfi bla bar bwi srim sst fw fc fwh fbo fra fst fco fro) H) (hZ : stZ (fun _ => False) tS tA s s.heap) (hSz : va_S (fun _ => False) s.heap H locs) (hR : 3 ≤ R.frames ∧ 83 ≤ R.locals ∧ cells ≤ R.cells ∧ slots ≤ R.slots) (hm : mX7_boxes n fc fco fro fw fst fra xpi a1 a2 = some r) (ls : Array Slot) (hl : lv_has ls 3 [(0, .ref oX), (1, .int a1), (2, .int a2)]) (K : ∀ (pc : Nat) (ls : Array Slot), decode cX7_boxes pc = .ok (.ireturn, 1) → W p l e R s m args below meth c H locs cells slots Q (F0 m pc ls [.int r])) : W p l e R s m args below meth c H locs cells slots Q (F0 m 0 ls []) := by
  unfold mX7_boxes at hm
  refine lv_iload_n hx hb dX7_boxes_0 rfl (lv_at hl 1 rfl) ?_
  refine kX7_isPicture ⟨hx, hb, hml, hown, hts⟩ qw_301 hl.1 ⟨Nat.le_trans (by decide) hR.1, Nat.le_trans (by decide) hR.2.1, hR.2.2⟩ (Nat.le_of_ble_eq_true rfl) dX7_boxes_1 ?_
  refine lv_if_ne (tgt := 9) hx hb dX7_boxes_4 (by decide) (fun c2 => ?_) (fun c2 => ?_)
  · rw [if_neg c2] at hm
    refine lv_aload_n hx hb dX7_boxes_9 rfl (lv_at hl 0 rfl) ?_
    refine va_get (D := D) (ci := 7) (v := .ref oB) (C := RX7) (T := TX7) (N := 8) hx hb hts tnX7 hown hK hP 0 rfl rfl 7 (by decide) (hts _ qw_355) (fun _ h9 => h9) rfl dX7_boxes_10 ?_
    refine lv_aload_n hx hb dX7_boxes_13 rfl (lv_at hl 0 rfl) ?_
    refine va_get (D := D) (ci := 7) (v := .ref oXp) (C := RX7) (T := TX7) (N := 8) hx hb hts tnX7 hown hK hP 0 rfl rfl 1 (by decide) (hts _ qw_297) (fun _ h9 => h9) rfl dX7_boxes_14 ?_
    refine lv_iload_n hx hb dX7_boxes_17 rfl (lv_at hl 1 rfl) ?_
    obtain ⟨g3, hm⟩ := gd_out hm
    refine va_lald hx hb hK hP 1 1 rfl rfl g3 dX7_boxes_18 ?_
    refine lv_iload_n hx hb dX7_boxes_19 rfl (lv_at hl 2 rfl) ?_
    obtain ⟨r4, h5, hm⟩ := jb_out hm
    refine kX0_howMany ⟨hx, hb, hml, hown, hts⟩ qw_356 (hP.sub (ws' := (wdB cJ cI oB oBw oF oFr oFs oFc oFw bsz bfi bla bar bwi fw fc fwh fbo fra fst fco fro)) [15, 16, 19, 20, 21, 22, 23] rfl) (hK.sub (tys' := [(cI, .int), (cJ, .long)]) [0, 1] rfl) (stZ_at hZ hSz) h5 hl.1 ⟨Nat.le_trans (by decide) hR.1, Nat.le_trans (by decide) hR.2.1, hR.2.2⟩ (Nat.le_of_ble_eq_true rfl) dX7_boxes_20 ?_
    have hm := Option.some.inj hm
    subst hm
    exact K 23 ls dX7_boxes_23
  · rw [if_pos c2] at hm
    refine lv_iconst (v := (-1 : Int32)) hx hb dX7_boxes_7 (by decide) ?_
    have hm := Option.some.inj hm
    subst hm
    exact K 8 ls dX7_boxes_8
set_option maxHeartbeats 4000000 in
set_option maxRecDepth 100000 in
theorem tX7_boxes (l : Launch) {D : va_G} {n : Nat} {a1 : Int32} {a2 : Int32} {r : Int32} (hm : mX7_boxes n fc fco fro fw fst fra xpi a1 a2 = some r) : Met l yX7_boxes (.code yX7_boxes cX7_boxes 3 (some .int) :: tw) ({ frames := 3, cells := 0, slots := 0, locals := 83 } : Room) (rdZ D [.ref oX, .int a1, .int a2] (wdX cJ cG cI oX oXp oXg oG0 oGa0 oG1 oGa1 oG2 oGa2 oQ oQw oI oR oRh oRm oB oBw oS oSs oF oFr oFs oFc oFw xpi gs0 ga0 gs1 ga1 gs2 ga2 qln qwy ijn rsz rhi rmi bsz bfi bla bar bwi srim sst fw fc fwh fbo fra fst fco fro) [(cI, .int), (cJ, .long), (cG, .object "WornShapes$Program")] tS tA) (vp_Si (fun q => q = r)) 0 0 (fun _ => False) := by
  refine Met.ofW (cc := cX7_boxes) (maxL := 3) (ret := (some .int)) (by decide) rfl ?_
  intro p e s m args below meth c s₁ B hml hv
  obtain ⟨rfl, hP, hK, hZ⟩ := hv
  have hx := B.exec
  have hb := B.bytes
  have hr := B.returns
  have hts : ∀ w ∈ tw, w.before _ s = true := fun w h => atoms_spec (ws := .code yX7_boxes cX7_boxes 3 (some .int) :: tw) B.pre w (List.mem_cons_of_mem _ h)
  have hown : s.vm.findClass RX7 = some m.cls := findClass_of_methodNamed B.named
  have hlocks := B.notSynchronized
  have hl := lv_entry ([.ref oX, .int a1, .int a2]) (n := 3) (Nat.le_of_ble_eq_true rfl)
  rw [lg_entry_eq]
  generalize (lg_sl ([.ref oX, .int a1, .int a2]) ++ List.replicate (3 - (lg_sl ([.ref oX, .int a1, .int a2])).length) Slot.unset).toArray = ls at hl ⊢
  refine bX7_boxes hx hb hml hown hts hK hP hZ va_S.rf ⟨Nat.le_of_ble_eq_true rfl, Nat.le_of_ble_eq_true rfl, Nat.zero_le _, Nat.zero_le _⟩ hm ls hl (fun pc ls hd => ?_)
  exact W.iret hx hb hr (fun t ht hW => ⟨r, rfl, rfl, ht⟩) (fun q h => by cases h) hd
set_option maxHeartbeats 4000000 in
set_option maxRecDepth 100000 in
theorem kX7_boxes {own : String} {cc : ByteArray} {nL idx pc : Nat} {ls : Array Slot} {rest : List Value} {n : Nat} {a1 : Int32} {a2 : Int32} {r : Int32} (fx : CallFix p m c cc nL s args tw own) (hq : Cond.methodLink own idx yX7_boxes ∈ tw) (hP : va_P D vwCl (wdX cJ cG cI oX oXp oXg oG0 oGa0 oG1 oGa1 oG2 oGa2 oQ oQw oI oR oRh oRm oB oBw oS oSs oF oFr oFs oFc oFw xpi gs0 ga0 gs1 ga1 gs2 ga2 qln qwy ijn rsz rhi rmi bsz bfi bla bar bwi srim sst fw fc fwh fbo fra fst fco fro) H) (hK : va_K D vwCl [(cI, .int), (cJ, .long), (cG, .object "WornShapes$Program")] s) (hz : stZ (fun _ => False) tS tA s H) (hm : mX7_boxes n fc fco fro fw fst fra xpi a1 a2 = some r) (hsz : ls.size = nL) (hR : 4 ≤ R.frames ∧ 105 ≤ R.locals ∧ cells ≤ R.cells ∧ slots ≤ R.slots) (hst : (rest.map fun v => v.category).sum ≤ 8) (hd : decode cc pc = .ok (.invokevirtual idx, 3)) (kk : W p l e R s m args below meth c H locs cells slots Q (F0 m (pc + 3) ls (.int r :: rest))) : W p l e R s m args below meth c H locs cells slots Q (F0 m pc ls (.int a2 :: .int a1 :: .ref oX :: rest)) := by
  exact vp_callSi (va_Run.run (va_runV (As := [.int a1, .int a2]) (rest := rest) fx (tX7_boxes l hm) (cwV 2 fx.2.2.2.2 (tw_V hq qw_357 qw_358 qw_288 qw_359) rfl rfl rfl (by decide +kernel) ⟨hR.1, hR.2.1⟩) ⟨rdZ_bl, va_recv hK hP (ci := 7) (q0 := 0) rfl rfl, rdZ_ok hP hK hz⟩ rfl rfl hsz rfl (lv_room hst) hd ⟨hR.2.2.1, hR.2.2.2⟩)) (fun r9 hr9 => by first | (rw [hr9]; exact kk) | (rw [hr9.1]; exact kk))
-- X7_alone
def mX7_alone (n : Nat) (fc : Int32) (xpi : Nat → Int64) (fco : Nat → Int32) (fro : Nat → Int32) (fw : Int32) (fst : Nat → Int64) (fra : Nat → Int32) (a1 : Int32) (a2 : Int32) : Option Int32 :=
  (if (mX7_isPicture a1) = 0 then (some (-1 : Int32)) else (if (mX1_isCell fc a2) = 0 then (some (-1 : Int32)) else jb (mX7_bitAt xpi a1 a2) (fun (r5 : Int32) => (if r5 = 0 then (some (-3 : Int32)) else gd (ib a1 5) (jb (mX0_howManyWidestAt n fc fco fro fw fst fra (xpi a1.toNatClampNeg) a2) (fun (r9 : Int32) => (if r9 = (1 : Int32) then (some (1 : Int32)) else (some (0 : Int32)))))))))
theorem dX7_alone_0 : decode cX7_alone 0 = .ok (.iload_n 1, 1) := by decide +kernel
theorem dX7_alone_1 : decode cX7_alone 1 = .ok (.invokestatic 81, 3) := by decide +kernel
theorem dX7_alone_4 : decode cX7_alone 4 = .ok (.ifCond .eq 14, 3) := by decide +kernel
theorem dX7_alone_7 : decode cX7_alone 7 = .ok (.aload_n 0, 1) := by decide +kernel
theorem dX7_alone_8 : decode cX7_alone 8 = .ok (.getfield 14, 3) := by decide +kernel
theorem dX7_alone_11 : decode cX7_alone 11 = .ok (.iload_n 2, 1) := by decide +kernel
theorem dX7_alone_12 : decode cX7_alone 12 = .ok (.invokevirtual 84, 3) := by decide +kernel
theorem dX7_alone_15 : decode cX7_alone 15 = .ok (.ifCond .ne 5, 3) := by decide +kernel
theorem dX7_alone_18 : decode cX7_alone 18 = .ok (.iconst (-1), 1) := by decide +kernel
theorem dX7_alone_19 : decode cX7_alone 19 = .ok (.ireturn, 1) := by decide +kernel
theorem dX7_alone_20 : decode cX7_alone 20 = .ok (.aload_n 0, 1) := by decide +kernel
theorem dX7_alone_21 : decode cX7_alone 21 = .ok (.iload_n 1, 1) := by decide +kernel
theorem dX7_alone_22 : decode cX7_alone 22 = .ok (.iload_n 2, 1) := by decide +kernel
theorem dX7_alone_23 : decode cX7_alone 23 = .ok (.invokevirtual 87, 3) := by decide +kernel
theorem dX7_alone_26 : decode cX7_alone 26 = .ok (.ifCond .ne 6, 3) := by decide +kernel
theorem dX7_alone_29 : decode cX7_alone 29 = .ok (.bipush (-3), 2) := by decide +kernel
theorem dX7_alone_31 : decode cX7_alone 31 = .ok (.ireturn, 1) := by decide +kernel
theorem dX7_alone_32 : decode cX7_alone 32 = .ok (.aload_n 0, 1) := by decide +kernel
theorem dX7_alone_33 : decode cX7_alone 33 = .ok (.getfield 66, 3) := by decide +kernel
theorem dX7_alone_36 : decode cX7_alone 36 = .ok (.aload_n 0, 1) := by decide +kernel
theorem dX7_alone_37 : decode cX7_alone 37 = .ok (.getfield 18, 3) := by decide +kernel
theorem dX7_alone_40 : decode cX7_alone 40 = .ok (.iload_n 1, 1) := by decide +kernel
theorem dX7_alone_41 : decode cX7_alone 41 = .ok (.laload, 1) := by decide +kernel
theorem dX7_alone_42 : decode cX7_alone 42 = .ok (.iload_n 2, 1) := by decide +kernel
theorem dX7_alone_43 : decode cX7_alone 43 = .ok (.invokevirtual 215, 3) := by decide +kernel
theorem dX7_alone_46 : decode cX7_alone 46 = .ok (.iconst 1, 1) := by decide +kernel
theorem dX7_alone_47 : decode cX7_alone 47 = .ok (.if_icmp .ne 7, 3) := by decide +kernel
theorem dX7_alone_50 : decode cX7_alone 50 = .ok (.iconst 1, 1) := by decide +kernel
theorem dX7_alone_51 : decode cX7_alone 51 = .ok (.goto 4, 3) := by decide +kernel
theorem dX7_alone_54 : decode cX7_alone 54 = .ok (.iconst 0, 1) := by decide +kernel
theorem dX7_alone_55 : decode cX7_alone 55 = .ok (.ireturn, 1) := by decide +kernel
set_option maxHeartbeats 4000000 in
set_option maxRecDepth 100000 in
theorem bX7_alone {n : Nat} {a1 : Int32} {a2 : Int32} {r : Int32} (hx : p.tables.exec = Jvm.exec) (hb : c.code = cX7_alone) (hml : c.maxLocals = 3) (hown : s.vm.findClass RX7 = some m.cls) (hts : ∀ w ∈ tw, w.before args s = true) (hK : va_K D vwCl [(cI, .int), (cJ, .long), (cG, .object "WornShapes$Program")] s) (hP : va_P D vwCl (wdX cJ cG cI oX oXp oXg oG0 oGa0 oG1 oGa1 oG2 oGa2 oQ oQw oI oR oRh oRm oB oBw oS oSs oF oFr oFs oFc oFw xpi gs0 ga0 gs1 ga1 gs2 ga2 qln qwy ijn rsz rhi rmi bsz bfi bla bar bwi srim sst fw fc fwh fbo fra fst fco fro) H) (hZ : stZ (fun _ => False) tS tA s s.heap) (hSz : va_S (fun _ => False) s.heap H locs) (hR : 3 ≤ R.frames ∧ 83 ≤ R.locals ∧ cells ≤ R.cells ∧ slots ≤ R.slots) (hm : mX7_alone n fc xpi fco fro fw fst fra a1 a2 = some r) (ls : Array Slot) (hl : lv_has ls 3 [(0, .ref oX), (1, .int a1), (2, .int a2)]) (K : ∀ (pc : Nat) (ls : Array Slot), decode cX7_alone pc = .ok (.ireturn, 1) → W p l e R s m args below meth c H locs cells slots Q (F0 m pc ls [.int r])) : W p l e R s m args below meth c H locs cells slots Q (F0 m 0 ls []) := by
  unfold mX7_alone at hm
  refine lv_iload_n hx hb dX7_alone_0 rfl (lv_at hl 1 rfl) ?_
  refine kX7_isPicture ⟨hx, hb, hml, hown, hts⟩ qw_301 hl.1 ⟨Nat.le_trans (by decide) hR.1, Nat.le_trans (by decide) hR.2.1, hR.2.2⟩ (Nat.le_of_ble_eq_true rfl) dX7_alone_1 ?_
  refine lv_if_eq (tgt := 18) hx hb dX7_alone_4 (by decide) (fun c2 => ?_) (fun c2 => ?_)
  · rw [if_pos c2] at hm
    refine lv_iconst (v := (-1 : Int32)) hx hb dX7_alone_18 (by decide) ?_
    have hm := Option.some.inj hm
    subst hm
    exact K 19 ls dX7_alone_19
  · rw [if_neg c2] at hm
    refine lv_aload_n hx hb dX7_alone_7 rfl (lv_at hl 0 rfl) ?_
    refine va_get (D := D) (ci := 7) (v := .ref oF) (C := RX7) (T := TX7) (N := 8) hx hb hts tnX7 hown hK hP 0 rfl rfl 0 (by decide) (hts _ qw_302) (fun _ h9 => h9) rfl dX7_alone_8 ?_
    refine lv_iload_n hx hb dX7_alone_11 rfl (lv_at hl 2 rfl) ?_
    refine kX1_isCell ⟨hx, hb, hml, hown, hts⟩ qw_303 (hP.sub (ws' := (wdF cI cJ oF oFr oFs oFc oFw fw fc fwh fbo fra fst fco fro)) [19, 20, 21, 22, 23] rfl) (hK.sub (tys' := [(cI, .int), (cJ, .long)]) [0, 1] rfl) hl.1 ⟨Nat.le_trans (by decide) hR.1, Nat.le_trans (by decide) hR.2.1, hR.2.2⟩ (Nat.le_of_ble_eq_true rfl) dX7_alone_12 ?_
    refine lv_if_ne (tgt := 20) hx hb dX7_alone_15 (by decide) (fun c4 => ?_) (fun c4 => ?_)
    · rw [if_neg c4] at hm
      refine lv_aload_n hx hb dX7_alone_20 rfl (lv_at hl 0 rfl) ?_
      refine lv_iload_n hx hb dX7_alone_21 rfl (lv_at hl 1 rfl) ?_
      refine lv_iload_n hx hb dX7_alone_22 rfl (lv_at hl 2 rfl) ?_
      obtain ⟨r5, h6, hm⟩ := jb_out hm
      refine kX7_bitAt ⟨hx, hb, hml, hown, hts⟩ qw_304 hP hK h6 hl.1 ⟨Nat.le_trans (by decide) hR.1, Nat.le_trans (by decide) hR.2.1, hR.2.2⟩ (Nat.le_of_ble_eq_true rfl) dX7_alone_23 ?_
      refine lv_if_ne (tgt := 32) hx hb dX7_alone_26 (by decide) (fun c7 => ?_) (fun c7 => ?_)
      · rw [if_neg c7] at hm
        refine lv_aload_n hx hb dX7_alone_32 rfl (lv_at hl 0 rfl) ?_
        refine va_get (D := D) (ci := 7) (v := .ref oB) (C := RX7) (T := TX7) (N := 8) hx hb hts tnX7 hown hK hP 0 rfl rfl 7 (by decide) (hts _ qw_355) (fun _ h9 => h9) rfl dX7_alone_33 ?_
        refine lv_aload_n hx hb dX7_alone_36 rfl (lv_at hl 0 rfl) ?_
        refine va_get (D := D) (ci := 7) (v := .ref oXp) (C := RX7) (T := TX7) (N := 8) hx hb hts tnX7 hown hK hP 0 rfl rfl 1 (by decide) (hts _ qw_297) (fun _ h9 => h9) rfl dX7_alone_37 ?_
        refine lv_iload_n hx hb dX7_alone_40 rfl (lv_at hl 1 rfl) ?_
        obtain ⟨g8, hm⟩ := gd_out hm
        refine va_lald hx hb hK hP 1 1 rfl rfl g8 dX7_alone_41 ?_
        refine lv_iload_n hx hb dX7_alone_42 rfl (lv_at hl 2 rfl) ?_
        obtain ⟨r9, h10, hm⟩ := jb_out hm
        refine kX0_howManyWidestAt ⟨hx, hb, hml, hown, hts⟩ qw_360 (hP.sub (ws' := (wdB cJ cI oB oBw oF oFr oFs oFc oFw bsz bfi bla bar bwi fw fc fwh fbo fra fst fco fro)) [15, 16, 19, 20, 21, 22, 23] rfl) (hK.sub (tys' := [(cI, .int), (cJ, .long)]) [0, 1] rfl) (stZ_at hZ hSz) h10 hl.1 ⟨Nat.le_trans (by decide) hR.1, Nat.le_trans (by decide) hR.2.1, hR.2.2⟩ (Nat.le_of_ble_eq_true rfl) dX7_alone_43 ?_
        refine lv_iconst (v := (1 : Int32)) hx hb dX7_alone_46 (by decide) ?_
        refine lv_icmp_ne (tgt := 54) hx hb dX7_alone_47 (by decide) (fun c11 => ?_) (fun c11 => ?_)
        · rw [if_neg c11] at hm
          refine lv_iconst (v := (0 : Int32)) hx hb dX7_alone_54 (by decide) ?_
          have hm := Option.some.inj hm
          subst hm
          exact K 55 ls dX7_alone_55
        · rw [if_pos c11] at hm
          refine lv_iconst (v := (1 : Int32)) hx hb dX7_alone_50 (by decide) ?_
          refine lv_goto (tgt := 55) hx hb dX7_alone_51 (by decide) ?_
          have hm := Option.some.inj hm
          subst hm
          exact K 55 ls dX7_alone_55
      · rw [if_pos c7] at hm
        refine lv_bipush (v := (-3 : Int32)) hx hb dX7_alone_29 (by decide) ?_
        have hm := Option.some.inj hm
        subst hm
        exact K 31 ls dX7_alone_31
    · rw [if_pos c4] at hm
      refine lv_iconst (v := (-1 : Int32)) hx hb dX7_alone_18 (by decide) ?_
      have hm := Option.some.inj hm
      subst hm
      exact K 19 ls dX7_alone_19
set_option maxHeartbeats 4000000 in
set_option maxRecDepth 100000 in
theorem tX7_alone (l : Launch) {D : va_G} {n : Nat} {a1 : Int32} {a2 : Int32} {r : Int32} (hm : mX7_alone n fc xpi fco fro fw fst fra a1 a2 = some r) : Met l yX7_alone (.code yX7_alone cX7_alone 3 (some .int) :: tw) ({ frames := 3, cells := 0, slots := 0, locals := 83 } : Room) (rdZ D [.ref oX, .int a1, .int a2] (wdX cJ cG cI oX oXp oXg oG0 oGa0 oG1 oGa1 oG2 oGa2 oQ oQw oI oR oRh oRm oB oBw oS oSs oF oFr oFs oFc oFw xpi gs0 ga0 gs1 ga1 gs2 ga2 qln qwy ijn rsz rhi rmi bsz bfi bla bar bwi srim sst fw fc fwh fbo fra fst fco fro) [(cI, .int), (cJ, .long), (cG, .object "WornShapes$Program")] tS tA) (vp_Si (fun q => q = r)) 0 0 (fun _ => False) := by
  refine Met.ofW (cc := cX7_alone) (maxL := 3) (ret := (some .int)) (by decide) rfl ?_
  intro p e s m args below meth c s₁ B hml hv
  obtain ⟨rfl, hP, hK, hZ⟩ := hv
  have hx := B.exec
  have hb := B.bytes
  have hr := B.returns
  have hts : ∀ w ∈ tw, w.before _ s = true := fun w h => atoms_spec (ws := .code yX7_alone cX7_alone 3 (some .int) :: tw) B.pre w (List.mem_cons_of_mem _ h)
  have hown : s.vm.findClass RX7 = some m.cls := findClass_of_methodNamed B.named
  have hlocks := B.notSynchronized
  have hl := lv_entry ([.ref oX, .int a1, .int a2]) (n := 3) (Nat.le_of_ble_eq_true rfl)
  rw [lg_entry_eq]
  generalize (lg_sl ([.ref oX, .int a1, .int a2]) ++ List.replicate (3 - (lg_sl ([.ref oX, .int a1, .int a2])).length) Slot.unset).toArray = ls at hl ⊢
  refine bX7_alone hx hb hml hown hts hK hP hZ va_S.rf ⟨Nat.le_of_ble_eq_true rfl, Nat.le_of_ble_eq_true rfl, Nat.zero_le _, Nat.zero_le _⟩ hm ls hl (fun pc ls hd => ?_)
  exact W.iret hx hb hr (fun t ht hW => ⟨r, rfl, rfl, ht⟩) (fun q h => by cases h) hd
set_option maxHeartbeats 4000000 in
set_option maxRecDepth 100000 in
theorem kX7_alone {own : String} {cc : ByteArray} {nL idx pc : Nat} {ls : Array Slot} {rest : List Value} {n : Nat} {a1 : Int32} {a2 : Int32} {r : Int32} (fx : CallFix p m c cc nL s args tw own) (hq : Cond.methodLink own idx yX7_alone ∈ tw) (hP : va_P D vwCl (wdX cJ cG cI oX oXp oXg oG0 oGa0 oG1 oGa1 oG2 oGa2 oQ oQw oI oR oRh oRm oB oBw oS oSs oF oFr oFs oFc oFw xpi gs0 ga0 gs1 ga1 gs2 ga2 qln qwy ijn rsz rhi rmi bsz bfi bla bar bwi srim sst fw fc fwh fbo fra fst fco fro) H) (hK : va_K D vwCl [(cI, .int), (cJ, .long), (cG, .object "WornShapes$Program")] s) (hz : stZ (fun _ => False) tS tA s H) (hm : mX7_alone n fc xpi fco fro fw fst fra a1 a2 = some r) (hsz : ls.size = nL) (hR : 4 ≤ R.frames ∧ 105 ≤ R.locals ∧ cells ≤ R.cells ∧ slots ≤ R.slots) (hst : (rest.map fun v => v.category).sum ≤ 8) (hd : decode cc pc = .ok (.invokevirtual idx, 3)) (kk : W p l e R s m args below meth c H locs cells slots Q (F0 m (pc + 3) ls (.int r :: rest))) : W p l e R s m args below meth c H locs cells slots Q (F0 m pc ls (.int a2 :: .int a1 :: .ref oX :: rest)) := by
  exact vp_callSi (va_Run.run (va_runV (As := [.int a1, .int a2]) (rest := rest) fx (tX7_alone l hm) (cwV 2 fx.2.2.2.2 (tw_V hq qw_361 qw_362 qw_288 qw_363) rfl rfl rfl (by decide +kernel) ⟨hR.1, hR.2.1⟩) ⟨rdZ_bl, va_recv hK hP (ci := 7) (q0 := 0) rfl rfl, rdZ_ok hP hK hz⟩ rfl rfl hsz rfl (lv_room hst) hd ⟨hR.2.2.1, hR.2.2.2⟩)) (fun r9 hr9 => by first | (rw [hr9]; exact kk) | (rw [hr9.1]; exact kk))
end
