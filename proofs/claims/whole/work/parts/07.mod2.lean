theorem qw_90 : Cond.constantLong RX8 100 (39) ∈ tw := tw_of (by decide +kernel) rfl
theorem qw_91 : Cond.static yX8_isAct ∈ tw := tw_of (by decide +kernel) rfl
theorem qw_92 : Cond.code yX8_isAct cX8_isAct 1 (some .boolean) ∈ tw := tw_of (by decide +kernel) rfl
theorem qw_93 : Cond.fieldLink RX8 20 "WornShapesModel" "stamps" "[I" ∈ tw := tw_of (by decide +kernel) rfl
theorem qw_94 : Cond.methodLink RX8 102 yX8_grown ∈ tw := tw_of (by decide +kernel) rfl
theorem qw_95 : Cond.methodLink RX8 106 yX8_worn ∈ tw := tw_of (by decide +kernel) rfl
theorem qw_96 : Cond.methodLink RX8 109 yX8_all ∈ tw := tw_of (by decide +kernel) rfl
theorem qw_97 : Cond.constantLong RX8 82 (-1) ∈ tw := tw_of (by decide +kernel) rfl
theorem qw_98 : Cond.instanceMethod yX8_acted ∈ tw := tw_of (by decide +kernel) rfl
theorem qw_99 : Cond.selects RX8 yX8_acted yX8_acted ∈ tw := tw_of (by decide +kernel) rfl
theorem qw_100 : Cond.code yX8_acted cX8_acted 5 (some .long) ∈ tw := tw_of (by decide +kernel) rfl
theorem qw_101 : Cond.methodLink RX8 71 yX8_isPicture ∈ tw := tw_of (by decide +kernel) rfl
theorem qw_102 : Cond.methodLink RX8 75 yX8_isCell ∈ tw := tw_of (by decide +kernel) rfl
theorem qw_103 : Cond.fieldLink RX8 16 "WornShapesModel" "pictures" "[J" ∈ tw := tw_of (by decide +kernel) rfl
theorem qw_104 : Cond.instanceMethod yX8_at ∈ tw := tw_of (by decide +kernel) rfl
theorem qw_105 : Cond.selects RX8 yX8_at yX8_at ∈ tw := tw_of (by decide +kernel) rfl
theorem qw_106 : Cond.code yX8_at cX8_at 3 (some .int) ∈ tw := tw_of (by decide +kernel) rfl
theorem qw_107 : Cond.instanceMethod yX8_number ∈ tw := tw_of (by decide +kernel) rfl
theorem qw_108 : Cond.selects RX8 yX8_number yX8_number ∈ tw := tw_of (by decide +kernel) rfl
theorem qw_109 : Cond.code yX8_number cX8_number 2 (some .long) ∈ tw := tw_of (by decide +kernel) rfl
theorem qw_110 : Cond.methodLink RX8 113 yX8_isAct ∈ tw := tw_of (by decide +kernel) rfl
theorem qw_111 : Cond.methodLink RX8 116 yX8_acted ∈ tw := tw_of (by decide +kernel) rfl
theorem qw_112 : Cond.methodLink RX8 88 yX8_many ∈ tw := tw_of (by decide +kernel) rfl
theorem qw_113 : Cond.instanceMethod yX8_would ∈ tw := tw_of (by decide +kernel) rfl
theorem qw_114 : Cond.selects RX8 yX8_would yX8_would ∈ tw := tw_of (by decide +kernel) rfl
theorem qw_115 : Cond.code yX8_would cX8_would 3 (some .int) ∈ tw := tw_of (by decide +kernel) rfl
theorem qw_116 : Cond.constantLong RX8 67 (2) ∈ tw := tw_of (by decide +kernel) rfl
theorem qw_117 : Cond.static yX8_isProgram ∈ tw := tw_of (by decide +kernel) rfl
theorem qw_118 : Cond.code yX8_isProgram cX8_isProgram 1 (some .boolean) ∈ tw := tw_of (by decide +kernel) rfl
theorem qw_119 : Cond.fieldLink RX8 30 "WornShapesModel" "actMany" "[I" ∈ tw := tw_of (by decide +kernel) rfl
theorem qw_120 : Cond.fieldLink RX8 33 "WornShapesModel" "acts" "[I" ∈ tw := tw_of (by decide +kernel) rfl
theorem qw_121 : Cond.instanceMethod yX8_ran ∈ tw := tw_of (by decide +kernel) rfl
theorem qw_122 : Cond.selects RX8 yX8_ran yX8_ran ∈ tw := tw_of (by decide +kernel) rfl
theorem qw_123 : Cond.code yX8_ran cX8_ran 7 (some .long) ∈ tw := tw_of (by decide +kernel) rfl
theorem qw_124 : Cond.static yX8_actOf ∈ tw := tw_of (by decide +kernel) rfl
theorem qw_125 : Cond.code yX8_actOf cX8_actOf 1 (some .int) ∈ tw := tw_of (by decide +kernel) rfl
theorem qw_126 : Cond.methodLink RX8 119 yX8_isProgram ∈ tw := tw_of (by decide +kernel) rfl
theorem qw_127 : Cond.methodLink RX8 122 yX8_ran ∈ tw := tw_of (by decide +kernel) rfl
theorem qw_128 : Cond.instanceMethod yX8_differ ∈ tw := tw_of (by decide +kernel) rfl
theorem qw_129 : Cond.selects RX8 yX8_differ yX8_differ ∈ tw := tw_of (by decide +kernel) rfl
theorem qw_130 : Cond.code yX8_differ cX8_differ 4 (some .int) ∈ tw := tw_of (by decide +kernel) rfl
theorem qw_131 : Cond.instanceMethod yX8_pieceOf ∈ tw := tw_of (by decide +kernel) rfl
theorem qw_132 : Cond.selects RX8 yX8_pieceOf yX8_pieceOf ∈ tw := tw_of (by decide +kernel) rfl
theorem qw_133 : Cond.code yX8_pieceOf cX8_pieceOf 10 (some .long) ∈ tw := tw_of (by decide +kernel) rfl
theorem qw_134 : Cond.static yX8_firstOf ∈ tw := tw_of (by decide +kernel) rfl
theorem qw_135 : Cond.code yX8_firstOf cX8_firstOf 3 (some .int) ∈ tw := tw_of (by decide +kernel) rfl
theorem qw_136 : Cond.instanceMethod yX8_edgeCells ∈ tw := tw_of (by decide +kernel) rfl
theorem qw_137 : Cond.selects RX8 yX8_edgeCells yX8_edgeCells ∈ tw := tw_of (by decide +kernel) rfl
theorem qw_138 : Cond.code yX8_edgeCells cX8_edgeCells 5 (some .long) ∈ tw := tw_of (by decide +kernel) rfl
theorem qw_139 : Cond.methodLink RX8 139 yX8_firstOf ∈ tw := tw_of (by decide +kernel) rfl
theorem qw_140 : Cond.fieldLink RX8 27 "WornShapesModel" "join" "I" ∈ tw := tw_of (by decide +kernel) rfl
theorem qw_141 : Cond.methodLink RX8 142 yX8_pieceOf ∈ tw := tw_of (by decide +kernel) rfl
theorem qw_142 : Cond.instanceMethod yX8_piecesOf ∈ tw := tw_of (by decide +kernel) rfl
theorem qw_143 : Cond.selects RX8 yX8_piecesOf yX8_piecesOf ∈ tw := tw_of (by decide +kernel) rfl
theorem qw_144 : Cond.code yX8_piecesOf cX8_piecesOf 6 (some .int) ∈ tw := tw_of (by decide +kernel) rfl
theorem qw_145 : Cond.instanceMethod yX8_edgeOf ∈ tw := tw_of (by decide +kernel) rfl
theorem qw_146 : Cond.selects RX8 yX8_edgeOf yX8_edgeOf ∈ tw := tw_of (by decide +kernel) rfl
theorem qw_147 : Cond.code yX8_edgeOf cX8_edgeOf 7 (some .int) ∈ tw := tw_of (by decide +kernel) rfl
theorem qw_148 : Cond.instanceMethod yX8_piece ∈ tw := tw_of (by decide +kernel) rfl
theorem qw_149 : Cond.selects RX8 yX8_piece yX8_piece ∈ tw := tw_of (by decide +kernel) rfl
theorem qw_150 : Cond.code yX8_piece cX8_piece 3 (some .int) ∈ tw := tw_of (by decide +kernel) rfl
section
variable {A : Nat → Prop} {p : Program} {l : Launch} {e : Env} {R : Room} {s : State} {m : MethodId} {args : Array Value} {below : List Frame} {meth : Method} {c : Code} {H : Heap} {locs : List Loc} {cells slots : Nat} {Q : State → Prop} {D : va_G} {oF : Nat} {oFr : Nat} {oFs : Nat} {oFc : Nat} {oFw : Nat} {oS : Nat} {oSs : Nat} {oG : Nat} {oGa : Nat} {oQ : Nat} {oQw : Nat} {oI : Nat} {oR : Nat} {oRh : Nat} {oRm : Nat} {oB : Nat} {oBw : Nat} {oX : Nat} {oXp : Nat} {oXg : Nat} {oG0 : Nat} {oGa0 : Nat} {oG1 : Nat} {oGa1 : Nat} {oG2 : Nat} {oGa2 : Nat} {oM : Nat} {oM1 : Nat} {oM2 : Nat} {oM3 : Nat} {oM4 : Nat} {oM5 : Nat} {oM6 : Nat} {oM7 : Nat} {oM8 : Nat} {oM9 : Nat} {oM10 : Nat} {oM11 : Nat} {tS : Nat} {tA : Nat} {cI : ClassId} {cJ : ClassId} {cG : ClassId} {fw : Int32} {fc : Int32} {fwh : Int64} {fbo : Int64} {fra : Nat → Int32} {fco : Nat → Int32} {fro : Nat → Int32} {fst : Nat → Int64} {srim : Int32} {sst : Nat → Int32} {gsz : Int32} {gac : Nat → Int32} {qln : Int32} {qwy : Nat → Int32} {ijn : Int32} {rsz : Int32} {rhi : Nat → Int32} {rmi : Nat → Int32} {bsz : Int32} {bfi : Int32} {bla : Int32} {bar : Int32} {bwi : Nat → Int64} {xpi : Nat → Int64} {gs0 : Int32} {gs1 : Int32} {gs2 : Int32} {ga0 : Nat → Int32} {ga1 : Nat → Int32} {ga2 : Nat → Int32} {mw : Int32} {mt : Int32} {mrim : Int32} {mjn : Int32} {mhm : Int32} {mpn : Int32} {mbm : Int32} {mgm : Int32} {mpi : Nat → Int64} {mbe : Nat → Int64} {mgr : Nat → Int64} {mle : Nat → Int64} {mst : Nat → Int32} {mam : Nat → Int32} {mac : Nat → Int32} {mro : Nat → Int32} {mhi : Nat → Int32} {mmi : Nat → Int32} {mtr : Nat → Int32}
-- X8_isAct
def mX8_isAct (a0 : Int32) : Int32 :=
  (if a0 = (40 : Int32) then (1 : Int32) else (if (mX8_in ((a0).toInt64) (0 : Int64) (39 : Int64)) = 0 then (0 : Int32) else (if (4 : Int32) ≤ (jrem a0 (10 : Int32)) then (0 : Int32) else (1 : Int32))))
theorem dX8_isAct_0 : decode cX8_isAct 0 = .ok (.iload_n 0, 1) := by decide +kernel
theorem dX8_isAct_1 : decode cX8_isAct 1 = .ok (.bipush 40, 2) := by decide +kernel
theorem dX8_isAct_3 : decode cX8_isAct 3 = .ok (.if_icmp .eq 23, 3) := by decide +kernel
theorem dX8_isAct_6 : decode cX8_isAct 6 = .ok (.iload_n 0, 1) := by decide +kernel
theorem dX8_isAct_7 : decode cX8_isAct 7 = .ok (.i2l, 1) := by decide +kernel
theorem dX8_isAct_8 : decode cX8_isAct 8 = .ok (.lconst 0, 1) := by decide +kernel
theorem dX8_isAct_9 : decode cX8_isAct 9 = .ok (.ldc2_w 100, 3) := by decide +kernel
theorem dX8_isAct_12 : decode cX8_isAct 12 = .ok (.invokestatic 63, 3) := by decide +kernel
theorem dX8_isAct_15 : decode cX8_isAct 15 = .ok (.ifCond .eq 15, 3) := by decide +kernel
theorem dX8_isAct_18 : decode cX8_isAct 18 = .ok (.iload_n 0, 1) := by decide +kernel
theorem dX8_isAct_19 : decode cX8_isAct 19 = .ok (.bipush 10, 2) := by decide +kernel
theorem dX8_isAct_21 : decode cX8_isAct 21 = .ok (.irem, 1) := by decide +kernel
theorem dX8_isAct_22 : decode cX8_isAct 22 = .ok (.iconst 4, 1) := by decide +kernel
theorem dX8_isAct_23 : decode cX8_isAct 23 = .ok (.if_icmp .ge 7, 3) := by decide +kernel
theorem dX8_isAct_26 : decode cX8_isAct 26 = .ok (.iconst 1, 1) := by decide +kernel
theorem dX8_isAct_27 : decode cX8_isAct 27 = .ok (.goto 4, 3) := by decide +kernel
theorem dX8_isAct_30 : decode cX8_isAct 30 = .ok (.iconst 0, 1) := by decide +kernel
theorem dX8_isAct_31 : decode cX8_isAct 31 = .ok (.ireturn, 1) := by decide +kernel
set_option maxHeartbeats 4000000 in
set_option maxRecDepth 100000 in
theorem bX8_isAct {a0 : Int32} {r : Int32} (hx : p.tables.exec = Jvm.exec) (hb : c.code = cX8_isAct) (hml : c.maxLocals = 1) (hown : s.vm.findClass RX8 = some m.cls) (hts : ∀ w ∈ tw, w.before args s = true) (hR : 1 ≤ R.frames ∧ 25 ≤ R.locals ∧ cells ≤ R.cells ∧ slots ≤ R.slots) (hm : mX8_isAct a0 = r) (ls : Array Slot) (hl : lv_has ls 1 [(0, .int a0)]) (K : ∀ (pc : Nat) (ls : Array Slot), decode cX8_isAct pc = .ok (.ireturn, 1) → narrow .boolean (.int r) = .int r → W p l e R s m args below meth c H locs cells slots Q (F0 m pc ls [.int r])) : W p l e R s m args below meth c H locs cells slots Q (F0 m 0 ls []) := by
  unfold mX8_isAct at hm
  refine lv_iload_n hx hb dX8_isAct_0 rfl (lv_at hl 0 rfl) ?_
  refine lv_bipush (v := (40 : Int32)) hx hb dX8_isAct_1 (by decide) ?_
  refine lv_icmp_eq (tgt := 26) hx hb dX8_isAct_3 (by decide) (fun c1 => ?_) (fun c1 => ?_)
  · rw [if_pos c1] at hm
    refine lv_iconst (v := (1 : Int32)) hx hb dX8_isAct_26 (by decide) ?_
    refine lv_goto (tgt := 31) hx hb dX8_isAct_27 (by decide) ?_
    subst hm
    exact K 31 ls dX8_isAct_31 rfl
  · rw [if_neg c1] at hm
    refine lv_iload_n hx hb dX8_isAct_6 rfl (lv_at hl 0 rfl) ?_
    refine lv_i2l (v := ((a0).toInt64)) hx hb dX8_isAct_7 rfl ?_
    refine lv_lconst (v := (0 : Int64)) hx hb dX8_isAct_8 (by decide) ?_
    refine lv_ldc2 (v := (39 : Int64)) hx hb hown (hts _ qw_90) dX8_isAct_9 ?_
    refine kX8_in ⟨hx, hb, hml, hown, hts⟩ qw_65 hl.1 ⟨Nat.le_trans (by decide) hR.1, Nat.le_trans (by decide) hR.2.1, hR.2.2⟩ (Nat.le_of_ble_eq_true rfl) dX8_isAct_12 ?_
    refine lv_if_eq (tgt := 30) hx hb dX8_isAct_15 (by decide) (fun c3 => ?_) (fun c3 => ?_)
    · rw [if_pos c3] at hm
      refine lv_iconst (v := (0 : Int32)) hx hb dX8_isAct_30 (by decide) ?_
      subst hm
      exact K 31 ls dX8_isAct_31 rfl
    · rw [if_neg c3] at hm
      refine lv_iload_n hx hb dX8_isAct_18 rfl (lv_at hl 0 rfl) ?_
      refine lv_bipush (v := (10 : Int32)) hx hb dX8_isAct_19 (by decide) ?_
      refine lv_irem hx hb dX8_isAct_21 (by decide) ?_
      refine lv_iconst (v := (4 : Int32)) hx hb dX8_isAct_22 (by decide) ?_
      refine lv_icmp_ge (tgt := 30) hx hb dX8_isAct_23 (by decide) (fun c4 => ?_) (fun c4 => ?_)
      · rw [if_pos c4] at hm
        refine lv_iconst (v := (0 : Int32)) hx hb dX8_isAct_30 (by decide) ?_
        subst hm
        exact K 31 ls dX8_isAct_31 rfl
      · rw [if_neg c4] at hm
        refine lv_iconst (v := (1 : Int32)) hx hb dX8_isAct_26 (by decide) ?_
        refine lv_goto (tgt := 31) hx hb dX8_isAct_27 (by decide) ?_
        subst hm
        exact K 31 ls dX8_isAct_31 rfl
set_option maxHeartbeats 4000000 in
set_option maxRecDepth 100000 in
theorem tX8_isAct (l : Launch) {a0 : Int32} {r : Int32} (hm : mX8_isAct a0 = r) : Met l yX8_isAct (.code yX8_isAct cX8_isAct 1 (some .boolean) :: tw) ({ frames := 1, cells := 0, slots := 0, locals := 25 } : Room) (va_Pc [.int a0] (fun _ => True)) (vp_Si (fun q => q = r ∧ narrow .boolean (.int q) = .int q)) 0 0 (fun _ => False) := by
  refine Met.ofW (cc := cX8_isAct) (maxL := 1) (ret := (some .boolean)) (by decide) rfl ?_
  intro p e s m args below meth c s₁ B hml hv
  obtain ⟨rfl, -⟩ := hv
  have hx := B.exec
  have hb := B.bytes
  have hr := B.returns
  have hts : ∀ w ∈ tw, w.before _ s = true := fun w h => atoms_spec (ws := .code yX8_isAct cX8_isAct 1 (some .boolean) :: tw) B.pre w (List.mem_cons_of_mem _ h)
  have hown : s.vm.findClass RX8 = some m.cls := findClass_of_methodNamed B.named
  have hlocks := B.notSynchronized
  have hl := lv_entry ([.int a0]) (n := 1) (Nat.le_of_ble_eq_true rfl)
  rw [lg_entry_eq]
  generalize (lg_sl ([.int a0]) ++ List.replicate (1 - (lg_sl ([.int a0])).length) Slot.unset).toArray = ls at hl ⊢
  refine bX8_isAct hx hb hml hown hts ⟨Nat.le_of_ble_eq_true rfl, Nat.le_of_ble_eq_true rfl, Nat.zero_le _, Nat.zero_le _⟩ hm ls hl (fun pc ls hd hz => ?_)
  exact W.zret hx hb hr hz (fun t ht hW => ⟨r, rfl, ⟨rfl, hz⟩, ht⟩) (fun q h => by cases h) hd
set_option maxHeartbeats 4000000 in
set_option maxRecDepth 100000 in
theorem kX8_isAct {own : String} {cc : ByteArray} {nL idx pc : Nat} {ls : Array Slot} {rest : List Value} {a0 : Int32} (fx : CallFix p m c cc nL s args tw own) (hq : Cond.methodLink own idx yX8_isAct ∈ tw) (hsz : ls.size = nL) (hR : 2 ≤ R.frames ∧ 45 ≤ R.locals ∧ cells ≤ R.cells ∧ slots ≤ R.slots) (hst : (rest.map fun v => v.category).sum ≤ 8) (hd : decode cc pc = .ok (.invokestatic idx, 3)) (kk : W p l e R s m args below meth c H locs cells slots Q (F0 m (pc + 3) ls (.int (mX8_isAct a0) :: rest))) : W p l e R s m args below meth c H locs cells slots Q (F0 m pc ls (.int a0 :: rest)) := by
  exact vp_callSi (va_Run.run (va_runS (As := [.int a0]) (rest := rest) fx (tX8_isAct l rfl) (va_cwS 1 fx.2.2.2.2 (tw_S2 hq qw_91 qw_53 qw_92) rfl rfl rfl (by decide +kernel) ⟨hR.1, hR.2.1⟩) ⟨fun a U g mk q => q, fun U hU hW => ⟨rfl, trivial⟩⟩ rfl rfl hsz rfl (lv_room hst) hd ⟨hR.2.2.1, hR.2.2.2⟩)) (fun r9 hr9 => by first | (rw [hr9]; exact kk) | (rw [hr9.1]; exact kk))
-- X8_acted
def mX8_acted (n : Nat) (mst : Nat → Int32) (mw : Int32) (mt : Int32) (mrim : Int32) (a1 : Int64) (a3 : Int32) : Option Int64 :=
  jb (if a3 = (40 : Int32) then (some ((0 : Int32))) else gd (ib (jrem a3 (10 : Int32)) 4) ((some ((mst (jrem a3 (10 : Int32)).toNatClampNeg))))) (fun (j1 : Int32) => (if (a3 / (10 : Int32)) = (0 : Int32) then jb (mX8_grown n mw mt a1 j1) (fun (r7 : Int64) => (some r7)) else (if (a3 / (10 : Int32)) = (1 : Int32) then jb (mX8_worn n mw mt mrim a1 j1) (fun (r10 : Int64) => (some r10)) else (if (a3 / (10 : Int32)) = (2 : Int32) then jb (mX8_worn n mw mt mrim a1 j1) (fun (r13 : Int64) => jb (mX8_grown n mw mt r13 j1) (fun (r15 : Int64) => (some r15))) else (if (a3 / (10 : Int32)) = (3 : Int32) then jb (mX8_grown n mw mt a1 j1) (fun (r18 : Int64) => jb (mX8_worn n mw mt mrim r18 j1) (fun (r20 : Int64) => (some r20))) else (some ((mX8_all mw mt) &&& (a1 ^^^ (-1 : Int64)))))))))
theorem dX8_acted_0 : decode cX8_acted 0 = .ok (.iload_n 3, 1) := by decide +kernel
theorem dX8_acted_1 : decode cX8_acted 1 = .ok (.bipush 40, 2) := by decide +kernel
theorem dX8_acted_3 : decode cX8_acted 3 = .ok (.if_icmp .ne 7, 3) := by decide +kernel
theorem dX8_acted_6 : decode cX8_acted 6 = .ok (.iconst 0, 1) := by decide +kernel
theorem dX8_acted_7 : decode cX8_acted 7 = .ok (.goto 12, 3) := by decide +kernel
theorem dX8_acted_10 : decode cX8_acted 10 = .ok (.aload_n 0, 1) := by decide +kernel
theorem dX8_acted_11 : decode cX8_acted 11 = .ok (.getfield 20, 3) := by decide +kernel
theorem dX8_acted_14 : decode cX8_acted 14 = .ok (.iload_n 3, 1) := by decide +kernel
theorem dX8_acted_15 : decode cX8_acted 15 = .ok (.bipush 10, 2) := by decide +kernel
theorem dX8_acted_17 : decode cX8_acted 17 = .ok (.irem, 1) := by decide +kernel
theorem dX8_acted_18 : decode cX8_acted 18 = .ok (.iaload, 1) := by decide +kernel
theorem dX8_acted_19 : decode cX8_acted 19 = .ok (.istore 4, 2) := by decide +kernel
theorem dX8_acted_21 : decode cX8_acted 21 = .ok (.iload_n 3, 1) := by decide +kernel
theorem dX8_acted_22 : decode cX8_acted 22 = .ok (.bipush 10, 2) := by decide +kernel
theorem dX8_acted_24 : decode cX8_acted 24 = .ok (.idiv, 1) := by decide +kernel
theorem dX8_acted_25 : decode cX8_acted 25 = .ok (.tableswitch 75 0 3 #[31, 39, 47, 61], 31) := by decide +kernel
theorem dX8_acted_56 : decode cX8_acted 56 = .ok (.aload_n 0, 1) := by decide +kernel
theorem dX8_acted_57 : decode cX8_acted 57 = .ok (.lload_n 1, 1) := by decide +kernel
theorem dX8_acted_58 : decode cX8_acted 58 = .ok (.iload 4, 2) := by decide +kernel
theorem dX8_acted_60 : decode cX8_acted 60 = .ok (.invokevirtual 102, 3) := by decide +kernel
theorem dX8_acted_63 : decode cX8_acted 63 = .ok (.lreturn, 1) := by decide +kernel
theorem dX8_acted_64 : decode cX8_acted 64 = .ok (.aload_n 0, 1) := by decide +kernel
theorem dX8_acted_65 : decode cX8_acted 65 = .ok (.lload_n 1, 1) := by decide +kernel
theorem dX8_acted_66 : decode cX8_acted 66 = .ok (.iload 4, 2) := by decide +kernel
theorem dX8_acted_68 : decode cX8_acted 68 = .ok (.invokevirtual 106, 3) := by decide +kernel
theorem dX8_acted_71 : decode cX8_acted 71 = .ok (.lreturn, 1) := by decide +kernel
theorem dX8_acted_72 : decode cX8_acted 72 = .ok (.aload_n 0, 1) := by decide +kernel
theorem dX8_acted_73 : decode cX8_acted 73 = .ok (.aload_n 0, 1) := by decide +kernel
theorem dX8_acted_74 : decode cX8_acted 74 = .ok (.lload_n 1, 1) := by decide +kernel
theorem dX8_acted_75 : decode cX8_acted 75 = .ok (.iload 4, 2) := by decide +kernel
theorem dX8_acted_77 : decode cX8_acted 77 = .ok (.invokevirtual 106, 3) := by decide +kernel
theorem dX8_acted_80 : decode cX8_acted 80 = .ok (.iload 4, 2) := by decide +kernel
theorem dX8_acted_82 : decode cX8_acted 82 = .ok (.invokevirtual 102, 3) := by decide +kernel
theorem dX8_acted_85 : decode cX8_acted 85 = .ok (.lreturn, 1) := by decide +kernel
theorem dX8_acted_86 : decode cX8_acted 86 = .ok (.aload_n 0, 1) := by decide +kernel
theorem dX8_acted_87 : decode cX8_acted 87 = .ok (.aload_n 0, 1) := by decide +kernel
theorem dX8_acted_88 : decode cX8_acted 88 = .ok (.lload_n 1, 1) := by decide +kernel
theorem dX8_acted_89 : decode cX8_acted 89 = .ok (.iload 4, 2) := by decide +kernel
theorem dX8_acted_91 : decode cX8_acted 91 = .ok (.invokevirtual 102, 3) := by decide +kernel
theorem dX8_acted_94 : decode cX8_acted 94 = .ok (.iload 4, 2) := by decide +kernel
theorem dX8_acted_96 : decode cX8_acted 96 = .ok (.invokevirtual 106, 3) := by decide +kernel
theorem dX8_acted_99 : decode cX8_acted 99 = .ok (.lreturn, 1) := by decide +kernel
theorem dX8_acted_100 : decode cX8_acted 100 = .ok (.aload_n 0, 1) := by decide +kernel
theorem dX8_acted_101 : decode cX8_acted 101 = .ok (.invokevirtual 109, 3) := by decide +kernel
theorem dX8_acted_104 : decode cX8_acted 104 = .ok (.lload_n 1, 1) := by decide +kernel
theorem dX8_acted_105 : decode cX8_acted 105 = .ok (.ldc2_w 82, 3) := by decide +kernel
theorem dX8_acted_108 : decode cX8_acted 108 = .ok (.lxor, 1) := by decide +kernel
theorem dX8_acted_109 : decode cX8_acted 109 = .ok (.land, 1) := by decide +kernel
theorem dX8_acted_110 : decode cX8_acted 110 = .ok (.lreturn, 1) := by decide +kernel
set_option maxHeartbeats 4000000 in
set_option maxRecDepth 100000 in
theorem bX8_acted {n : Nat} {a1 : Int64} {a3 : Int32} {r : Int64} (hx : p.tables.exec = Jvm.exec) (hb : c.code = cX8_acted) (hml : c.maxLocals = 5) (hown : s.vm.findClass RX8 = some m.cls) (hts : ∀ w ∈ tw, w.before args s = true) (hK : va_K D vwCl [(cI, .int), (cJ, .long)] s) (hP : va_P D vwCl (wdM cJ cI oM oM1 oM2 oM3 oM4 oM5 oM6 oM7 oM8 oM9 oM10 oM11 mw mt mrim mjn mhm mpn mbm mgm mpi mst mam mac mro mbe mhi mmi mgr mtr mle) H) (hR : 3 ≤ R.frames ∧ 78 ≤ R.locals ∧ cells ≤ R.cells ∧ slots ≤ R.slots) (hm : mX8_acted n mst mw mt mrim a1 a3 = some r) (ls : Array Slot) (hl : lv_has ls 5 [(0, .ref oM), (1, .long a1), (3, .int a3)]) (K : ∀ (pc : Nat) (ls : Array Slot), decode cX8_acted pc = .ok (.lreturn, 1) → W p l e R s m args below meth c H locs cells slots Q (F0 m pc ls [.long r])) : W p l e R s m args below meth c H locs cells slots Q (F0 m 0 ls []) := by
  unfold mX8_acted at hm
  refine lv_iload_n hx hb dX8_acted_0 rfl (lv_at hl 2 rfl) ?_
  refine lv_bipush (v := (40 : Int32)) hx hb dX8_acted_1 (by decide) ?_
  obtain ⟨j1, hi2, hm⟩ := jb_out hm
  have key3 : ∀ (ls : Array Slot), lv_has ls 5 [(0, .ref oM), (1, .long a1), (3, .int a3)] → W p l e R s m args below meth c H locs cells slots Q (F0 m 19 ls [.int j1]) := by
    intro ls hl
    refine lv_istore (lv' := [(4, .int j1), (0, .ref oM), (1, .long a1), (3, .int a3)]) hx hb dX8_acted_19 hl (by decide) rfl (fun ls hl => ?_)
    refine lv_iload_n hx hb dX8_acted_21 rfl (lv_at hl 3 rfl) ?_
    refine lv_bipush (v := (10 : Int32)) hx hb dX8_acted_22 (by decide) ?_
    refine lv_idiv hx hb dX8_acted_24 (by decide) ?_
    by_cases c6 : (a3 / (10 : Int32)) = (0 : Int32)
    · rw [if_pos c6] at hm
      refine lv_tableIn (tgt := 56) hx hb dX8_acted_25 (by rw [c6]; decide) (by rw [c6]; decide) (by rw [c6]; rfl) (by decide) ?_
      refine lv_aload_n hx hb dX8_acted_56 rfl (lv_at hl 1 rfl) ?_
      refine lv_lload_n hx hb dX8_acted_57 rfl (lv_at hl 2 rfl) ?_
      refine lv_iload hx hb dX8_acted_58 (lv_at hl 0 rfl) ?_
      obtain ⟨r7, h8, hm⟩ := jb_out hm
      refine kX8_grown ⟨hx, hb, hml, hown, hts⟩ qw_94 hP hK h8 hl.1 ⟨Nat.le_trans (by decide) hR.1, Nat.le_trans (by decide) hR.2.1, hR.2.2⟩ (Nat.le_of_ble_eq_true rfl) dX8_acted_60 ?_
      have hm := Option.some.inj hm
      subst hm
      exact K 63 ls dX8_acted_63
    rw [if_neg c6] at hm
    by_cases c9 : (a3 / (10 : Int32)) = (1 : Int32)
    · rw [if_pos c9] at hm
      refine lv_tableIn (tgt := 64) hx hb dX8_acted_25 (by rw [c9]; decide) (by rw [c9]; decide) (by rw [c9]; rfl) (by decide) ?_
      refine lv_aload_n hx hb dX8_acted_64 rfl (lv_at hl 1 rfl) ?_
      refine lv_lload_n hx hb dX8_acted_65 rfl (lv_at hl 2 rfl) ?_
      refine lv_iload hx hb dX8_acted_66 (lv_at hl 0 rfl) ?_
      obtain ⟨r10, h11, hm⟩ := jb_out hm
      refine kX8_worn ⟨hx, hb, hml, hown, hts⟩ qw_95 hP hK h11 hl.1 ⟨Nat.le_trans (by decide) hR.1, Nat.le_trans (by decide) hR.2.1, hR.2.2⟩ (Nat.le_of_ble_eq_true rfl) dX8_acted_68 ?_
      have hm := Option.some.inj hm
      subst hm
      exact K 71 ls dX8_acted_71
    rw [if_neg c9] at hm
    by_cases c12 : (a3 / (10 : Int32)) = (2 : Int32)
    · rw [if_pos c12] at hm
      refine lv_tableIn (tgt := 72) hx hb dX8_acted_25 (by rw [c12]; decide) (by rw [c12]; decide) (by rw [c12]; rfl) (by decide) ?_
      refine lv_aload_n hx hb dX8_acted_72 rfl (lv_at hl 1 rfl) ?_
      refine lv_aload_n hx hb dX8_acted_73 rfl (lv_at hl 1 rfl) ?_
      refine lv_lload_n hx hb dX8_acted_74 rfl (lv_at hl 2 rfl) ?_
      refine lv_iload hx hb dX8_acted_75 (lv_at hl 0 rfl) ?_
      obtain ⟨r13, h14, hm⟩ := jb_out hm
      refine kX8_worn ⟨hx, hb, hml, hown, hts⟩ qw_95 hP hK h14 hl.1 ⟨Nat.le_trans (by decide) hR.1, Nat.le_trans (by decide) hR.2.1, hR.2.2⟩ (Nat.le_of_ble_eq_true rfl) dX8_acted_77 ?_
      refine lv_iload hx hb dX8_acted_80 (lv_at hl 0 rfl) ?_
      obtain ⟨r15, h16, hm⟩ := jb_out hm
      refine kX8_grown ⟨hx, hb, hml, hown, hts⟩ qw_94 hP hK h16 hl.1 ⟨Nat.le_trans (by decide) hR.1, Nat.le_trans (by decide) hR.2.1, hR.2.2⟩ (Nat.le_of_ble_eq_true rfl) dX8_acted_82 ?_
      have hm := Option.some.inj hm
      subst hm
      exact K 85 ls dX8_acted_85
    rw [if_neg c12] at hm
    by_cases c17 : (a3 / (10 : Int32)) = (3 : Int32)
    · rw [if_pos c17] at hm
      refine lv_tableIn (tgt := 86) hx hb dX8_acted_25 (by rw [c17]; decide) (by rw [c17]; decide) (by rw [c17]; rfl) (by decide) ?_
      refine lv_aload_n hx hb dX8_acted_86 rfl (lv_at hl 1 rfl) ?_
      refine lv_aload_n hx hb dX8_acted_87 rfl (lv_at hl 1 rfl) ?_
      refine lv_lload_n hx hb dX8_acted_88 rfl (lv_at hl 2 rfl) ?_
      refine lv_iload hx hb dX8_acted_89 (lv_at hl 0 rfl) ?_
      obtain ⟨r18, h19, hm⟩ := jb_out hm
      refine kX8_grown ⟨hx, hb, hml, hown, hts⟩ qw_94 hP hK h19 hl.1 ⟨Nat.le_trans (by decide) hR.1, Nat.le_trans (by decide) hR.2.1, hR.2.2⟩ (Nat.le_of_ble_eq_true rfl) dX8_acted_91 ?_
      refine lv_iload hx hb dX8_acted_94 (lv_at hl 0 rfl) ?_
      obtain ⟨r20, h21, hm⟩ := jb_out hm
      refine kX8_worn ⟨hx, hb, hml, hown, hts⟩ qw_95 hP hK h21 hl.1 ⟨Nat.le_trans (by decide) hR.1, Nat.le_trans (by decide) hR.2.1, hR.2.2⟩ (Nat.le_of_ble_eq_true rfl) dX8_acted_96 ?_
      have hm := Option.some.inj hm
      subst hm
      exact K 99 ls dX8_acted_99
    rw [if_neg c17] at hm
    refine lv_tableOut (tgt := 100) hx hb dX8_acted_25 (tsw4 (by assumption) (by assumption) (by assumption) (by assumption)) (by decide) ?_
    refine lv_aload_n hx hb dX8_acted_100 rfl (lv_at hl 1 rfl) ?_
    refine kX8_all ⟨hx, hb, hml, hown, hts⟩ qw_96 hP hK hl.1 ⟨Nat.le_trans (by decide) hR.1, Nat.le_trans (by decide) hR.2.1, hR.2.2⟩ (Nat.le_of_ble_eq_true rfl) dX8_acted_101 ?_
    refine lv_lload_n hx hb dX8_acted_104 rfl (lv_at hl 2 rfl) ?_
    refine lv_ldc2 (v := (-1 : Int64)) hx hb hown (hts _ qw_97) dX8_acted_105 ?_
    refine lv_lxor hx hb dX8_acted_108 ?_
    refine lv_land hx hb dX8_acted_109 ?_
    have hm := Option.some.inj hm
    subst hm
    exact K 110 ls dX8_acted_110
  refine lv_icmp_ne (tgt := 10) hx hb dX8_acted_3 (by decide) (fun c4 => ?_) (fun c4 => ?_)
  · rw [if_neg c4] at hi2
    refine lv_aload_n hx hb dX8_acted_10 rfl (lv_at hl 0 rfl) ?_
    refine va_get (D := D) (ci := 8) (v := .ref oM2) (C := RX8) (T := TX8) (N := 19) hx hb hts tnX8 hown hK hP 0 rfl rfl 3 (by decide) (hts _ qw_93) (fun _ h9 => h9) rfl dX8_acted_11 ?_
    refine lv_iload_n hx hb dX8_acted_14 rfl (lv_at hl 2 rfl) ?_
    refine lv_bipush (v := (10 : Int32)) hx hb dX8_acted_15 (by decide) ?_
    refine lv_irem hx hb dX8_acted_17 (by decide) ?_
    obtain ⟨g5, hi2⟩ := gd_out hi2
    refine va_iald hx hb hK hP 2 0 rfl rfl g5 dX8_acted_18 ?_
    have hi2 := Option.some.inj hi2
    have e9 : j1 = (mst (jrem a3 (10 : Int32)).toNatClampNeg) := (congrArg (fun q => q) hi2).symm
    rw [e9] at key3
    exact key3 ls (lv_sub hl [0, 1, 2] rfl)
  · rw [if_pos c4] at hi2
    refine lv_iconst (v := (0 : Int32)) hx hb dX8_acted_6 (by decide) ?_
    refine lv_goto (tgt := 19) hx hb dX8_acted_7 (by decide) ?_
    have hi2 := Option.some.inj hi2
    have e9 : j1 = (0 : Int32) := (congrArg (fun q => q) hi2).symm
    rw [e9] at key3
    exact key3 ls (lv_sub hl [0, 1, 2] rfl)
set_option maxHeartbeats 4000000 in
set_option maxRecDepth 100000 in
theorem tX8_acted (l : Launch) {D : va_G} {n : Nat} {a1 : Int64} {a3 : Int32} {r : Int64} (hm : mX8_acted n mst mw mt mrim a1 a3 = some r) : Met l yX8_acted (.code yX8_acted cX8_acted 5 (some .long) :: tw) ({ frames := 3, cells := 0, slots := 0, locals := 78 } : Room) (rdP D [.ref oM, .long a1, .int a3] (wdM cJ cI oM oM1 oM2 oM3 oM4 oM5 oM6 oM7 oM8 oM9 oM10 oM11 mw mt mrim mjn mhm mpn mbm mgm mpi mst mam mac mro mbe mhi mmi mgr mtr mle) [(cI, .int), (cJ, .long)]) (vp_Sl (fun q => q = r)) 0 0 (fun _ => False) := by
  refine Met.ofW (cc := cX8_acted) (maxL := 5) (ret := (some .long)) (by decide) rfl ?_
  intro p e s m args below meth c s₁ B hml hv
  obtain ⟨rfl, hP, hK⟩ := hv
  have hx := B.exec
  have hb := B.bytes
  have hr := B.returns
  have hts : ∀ w ∈ tw, w.before _ s = true := fun w h => atoms_spec (ws := .code yX8_acted cX8_acted 5 (some .long) :: tw) B.pre w (List.mem_cons_of_mem _ h)
  have hown : s.vm.findClass RX8 = some m.cls := findClass_of_methodNamed B.named
  have hlocks := B.notSynchronized
  have hl := lv_entry ([.ref oM, .long a1, .int a3]) (n := 5) (Nat.le_of_ble_eq_true rfl)
  rw [lg_entry_eq]
  generalize (lg_sl ([.ref oM, .long a1, .int a3]) ++ List.replicate (5 - (lg_sl ([.ref oM, .long a1, .int a3])).length) Slot.unset).toArray = ls at hl ⊢
  refine bX8_acted hx hb hml hown hts hK hP ⟨Nat.le_of_ble_eq_true rfl, Nat.le_of_ble_eq_true rfl, Nat.zero_le _, Nat.zero_le _⟩ hm ls hl (fun pc ls hd => ?_)
  exact W.lret hx hb hr (fun t ht hW => ⟨r, rfl, rfl, ht⟩) (fun q h => by cases h) hd
set_option maxHeartbeats 4000000 in
set_option maxRecDepth 100000 in
theorem kX8_acted {own : String} {cc : ByteArray} {nL idx pc : Nat} {ls : Array Slot} {rest : List Value} {n : Nat} {a1 : Int64} {a3 : Int32} {r : Int64} (fx : CallFix p m c cc nL s args tw own) (hq : Cond.methodLink own idx yX8_acted ∈ tw) (hP : va_P D vwCl (wdM cJ cI oM oM1 oM2 oM3 oM4 oM5 oM6 oM7 oM8 oM9 oM10 oM11 mw mt mrim mjn mhm mpn mbm mgm mpi mst mam mac mro mbe mhi mmi mgr mtr mle) H) (hK : va_K D vwCl [(cI, .int), (cJ, .long)] s) (hm : mX8_acted n mst mw mt mrim a1 a3 = some r) (hsz : ls.size = nL) (hR : 4 ≤ R.frames ∧ 102 ≤ R.locals ∧ cells ≤ R.cells ∧ slots ≤ R.slots) (hst : (rest.map fun v => v.category).sum ≤ 8) (hd : decode cc pc = .ok (.invokevirtual idx, 3)) (kk : W p l e R s m args below meth c H locs cells slots Q (F0 m (pc + 3) ls (.long r :: rest))) : W p l e R s m args below meth c H locs cells slots Q (F0 m pc ls (.int a3 :: .long a1 :: .ref oM :: rest)) := by
  exact vp_callSl (va_Run.run (va_runV (As := [.long a1, .int a3]) (rest := rest) fx (tX8_acted l hm) (cwV 2 fx.2.2.2.2 (tw_V hq qw_98 qw_99 qw_53 qw_100) rfl rfl rfl (by decide +kernel) ⟨hR.1, hR.2.1⟩) ⟨rdP_bl, va_recv hK hP (ci := 8) (q0 := 0) rfl rfl, rdP_ok hP hK⟩ rfl rfl hsz rfl (lv_room hst) hd ⟨hR.2.2.1, hR.2.2.2⟩)) (fun r9 hr9 => by first | (rw [hr9]; exact kk) | (rw [hr9.1]; exact kk))
-- X8_at
def mX8_at (mw : Int32) (mt : Int32) (mpi : Nat → Int64) (a1 : Int32) (a2 : Int32) : Option Int32 :=
  (if (mX8_isPicture a1) = 0 then (some (-1 : Int32)) else (if (mX8_isCell mw mt a2) = 0 then (some (-1 : Int32)) else gd (ib a1 5) ((if (mX8_has (mpi a1.toNatClampNeg) a2) = 0 then (some (0 : Int32)) else (some (1 : Int32))))))
theorem dX8_at_0 : decode cX8_at 0 = .ok (.iload_n 1, 1) := by decide +kernel
theorem dX8_at_1 : decode cX8_at 1 = .ok (.invokestatic 71, 3) := by decide +kernel
theorem dX8_at_4 : decode cX8_at 4 = .ok (.ifCond .eq 11, 3) := by decide +kernel
theorem dX8_at_7 : decode cX8_at 7 = .ok (.aload_n 0, 1) := by decide +kernel
theorem dX8_at_8 : decode cX8_at 8 = .ok (.iload_n 2, 1) := by decide +kernel
theorem dX8_at_9 : decode cX8_at 9 = .ok (.invokevirtual 75, 3) := by decide +kernel
theorem dX8_at_12 : decode cX8_at 12 = .ok (.ifCond .ne 7, 3) := by decide +kernel
theorem dX8_at_15 : decode cX8_at 15 = .ok (.iconst (-1), 1) := by decide +kernel
theorem dX8_at_16 : decode cX8_at 16 = .ok (.goto 21, 3) := by decide +kernel
theorem dX8_at_19 : decode cX8_at 19 = .ok (.aload_n 0, 1) := by decide +kernel
theorem dX8_at_20 : decode cX8_at 20 = .ok (.getfield 16, 3) := by decide +kernel
theorem dX8_at_23 : decode cX8_at 23 = .ok (.iload_n 1, 1) := by decide +kernel
theorem dX8_at_24 : decode cX8_at 24 = .ok (.laload, 1) := by decide +kernel
theorem dX8_at_25 : decode cX8_at 25 = .ok (.iload_n 2, 1) := by decide +kernel
theorem dX8_at_26 : decode cX8_at 26 = .ok (.invokestatic 78, 3) := by decide +kernel
theorem dX8_at_29 : decode cX8_at 29 = .ok (.ifCond .eq 7, 3) := by decide +kernel
theorem dX8_at_32 : decode cX8_at 32 = .ok (.iconst 1, 1) := by decide +kernel
theorem dX8_at_33 : decode cX8_at 33 = .ok (.goto 4, 3) := by decide +kernel
theorem dX8_at_36 : decode cX8_at 36 = .ok (.iconst 0, 1) := by decide +kernel
theorem dX8_at_37 : decode cX8_at 37 = .ok (.ireturn, 1) := by decide +kernel
set_option maxHeartbeats 4000000 in
set_option maxRecDepth 100000 in
theorem bX8_at {a1 : Int32} {a2 : Int32} {r : Int32} (hx : p.tables.exec = Jvm.exec) (hb : c.code = cX8_at) (hml : c.maxLocals = 3) (hown : s.vm.findClass RX8 = some m.cls) (hts : ∀ w ∈ tw, w.before args s = true) (hK : va_K D vwCl [(cI, .int), (cJ, .long)] s) (hP : va_P D vwCl (wdM cJ cI oM oM1 oM2 oM3 oM4 oM5 oM6 oM7 oM8 oM9 oM10 oM11 mw mt mrim mjn mhm mpn mbm mgm mpi mst mam mac mro mbe mhi mmi mgr mtr mle) H) (hR : 2 ≤ R.frames ∧ 46 ≤ R.locals ∧ cells ≤ R.cells ∧ slots ≤ R.slots) (hm : mX8_at mw mt mpi a1 a2 = some r) (ls : Array Slot) (hl : lv_has ls 3 [(0, .ref oM), (1, .int a1), (2, .int a2)]) (K : ∀ (pc : Nat) (ls : Array Slot), decode cX8_at pc = .ok (.ireturn, 1) → W p l e R s m args below meth c H locs cells slots Q (F0 m pc ls [.int r])) : W p l e R s m args below meth c H locs cells slots Q (F0 m 0 ls []) := by
  unfold mX8_at at hm
  refine lv_iload_n hx hb dX8_at_0 rfl (lv_at hl 1 rfl) ?_
  refine kX8_isPicture ⟨hx, hb, hml, hown, hts⟩ qw_101 hl.1 ⟨Nat.le_trans (by decide) hR.1, Nat.le_trans (by decide) hR.2.1, hR.2.2⟩ (Nat.le_of_ble_eq_true rfl) dX8_at_1 ?_
  refine lv_if_eq (tgt := 15) hx hb dX8_at_4 (by decide) (fun c2 => ?_) (fun c2 => ?_)
  · rw [if_pos c2] at hm
    refine lv_iconst (v := (-1 : Int32)) hx hb dX8_at_15 (by decide) ?_
    refine lv_goto (tgt := 37) hx hb dX8_at_16 (by decide) ?_
    have hm := Option.some.inj hm
    subst hm
    exact K 37 ls dX8_at_37
  · rw [if_neg c2] at hm
    refine lv_aload_n hx hb dX8_at_7 rfl (lv_at hl 0 rfl) ?_
    refine lv_iload_n hx hb dX8_at_8 rfl (lv_at hl 2 rfl) ?_
    refine kX8_isCell ⟨hx, hb, hml, hown, hts⟩ qw_102 hP hK hl.1 ⟨Nat.le_trans (by decide) hR.1, Nat.le_trans (by decide) hR.2.1, hR.2.2⟩ (Nat.le_of_ble_eq_true rfl) dX8_at_9 ?_
    refine lv_if_ne (tgt := 19) hx hb dX8_at_12 (by decide) (fun c4 => ?_) (fun c4 => ?_)
    · rw [if_neg c4] at hm
      refine lv_aload_n hx hb dX8_at_19 rfl (lv_at hl 0 rfl) ?_
      refine va_get (D := D) (ci := 8) (v := .ref oM1) (C := RX8) (T := TX8) (N := 19) hx hb hts tnX8 hown hK hP 0 rfl rfl 2 (by decide) (hts _ qw_103) (fun _ h9 => h9) rfl dX8_at_20 ?_
      refine lv_iload_n hx hb dX8_at_23 rfl (lv_at hl 1 rfl) ?_
      obtain ⟨g5, hm⟩ := gd_out hm
      refine va_lald hx hb hK hP 1 1 rfl rfl g5 dX8_at_24 ?_
      refine lv_iload_n hx hb dX8_at_25 rfl (lv_at hl 2 rfl) ?_
      refine kX8_has ⟨hx, hb, hml, hown, hts⟩ qw_81 hl.1 ⟨Nat.le_trans (by decide) hR.1, Nat.le_trans (by decide) hR.2.1, hR.2.2⟩ (Nat.le_of_ble_eq_true rfl) dX8_at_26 ?_
      refine lv_if_eq (tgt := 36) hx hb dX8_at_29 (by decide) (fun c7 => ?_) (fun c7 => ?_)
      · rw [if_pos c7] at hm
        refine lv_iconst (v := (0 : Int32)) hx hb dX8_at_36 (by decide) ?_
        have hm := Option.some.inj hm
        subst hm
        exact K 37 ls dX8_at_37
      · rw [if_neg c7] at hm
        refine lv_iconst (v := (1 : Int32)) hx hb dX8_at_32 (by decide) ?_
        refine lv_goto (tgt := 37) hx hb dX8_at_33 (by decide) ?_
        have hm := Option.some.inj hm
        subst hm
        exact K 37 ls dX8_at_37
    · rw [if_pos c4] at hm
      refine lv_iconst (v := (-1 : Int32)) hx hb dX8_at_15 (by decide) ?_
      refine lv_goto (tgt := 37) hx hb dX8_at_16 (by decide) ?_
      have hm := Option.some.inj hm
      subst hm
      exact K 37 ls dX8_at_37
set_option maxHeartbeats 4000000 in
set_option maxRecDepth 100000 in
theorem tX8_at (l : Launch) {D : va_G} {a1 : Int32} {a2 : Int32} {r : Int32} (hm : mX8_at mw mt mpi a1 a2 = some r) : Met l yX8_at (.code yX8_at cX8_at 3 (some .int) :: tw) ({ frames := 2, cells := 0, slots := 0, locals := 46 } : Room) (rdP D [.ref oM, .int a1, .int a2] (wdM cJ cI oM oM1 oM2 oM3 oM4 oM5 oM6 oM7 oM8 oM9 oM10 oM11 mw mt mrim mjn mhm mpn mbm mgm mpi mst mam mac mro mbe mhi mmi mgr mtr mle) [(cI, .int), (cJ, .long)]) (vp_Si (fun q => q = r)) 0 0 (fun _ => False) := by
  refine Met.ofW (cc := cX8_at) (maxL := 3) (ret := (some .int)) (by decide) rfl ?_
  intro p e s m args below meth c s₁ B hml hv
  obtain ⟨rfl, hP, hK⟩ := hv
  have hx := B.exec
  have hb := B.bytes
  have hr := B.returns
  have hts : ∀ w ∈ tw, w.before _ s = true := fun w h => atoms_spec (ws := .code yX8_at cX8_at 3 (some .int) :: tw) B.pre w (List.mem_cons_of_mem _ h)
  have hown : s.vm.findClass RX8 = some m.cls := findClass_of_methodNamed B.named
  have hlocks := B.notSynchronized
  have hl := lv_entry ([.ref oM, .int a1, .int a2]) (n := 3) (Nat.le_of_ble_eq_true rfl)
  rw [lg_entry_eq]
  generalize (lg_sl ([.ref oM, .int a1, .int a2]) ++ List.replicate (3 - (lg_sl ([.ref oM, .int a1, .int a2])).length) Slot.unset).toArray = ls at hl ⊢
  refine bX8_at hx hb hml hown hts hK hP ⟨Nat.le_of_ble_eq_true rfl, Nat.le_of_ble_eq_true rfl, Nat.zero_le _, Nat.zero_le _⟩ hm ls hl (fun pc ls hd => ?_)
  exact W.iret hx hb hr (fun t ht hW => ⟨r, rfl, rfl, ht⟩) (fun q h => by cases h) hd
set_option maxHeartbeats 4000000 in
set_option maxRecDepth 100000 in
theorem kX8_at {own : String} {cc : ByteArray} {nL idx pc : Nat} {ls : Array Slot} {rest : List Value} {a1 : Int32} {a2 : Int32} {r : Int32} (fx : CallFix p m c cc nL s args tw own) (hq : Cond.methodLink own idx yX8_at ∈ tw) (hP : va_P D vwCl (wdM cJ cI oM oM1 oM2 oM3 oM4 oM5 oM6 oM7 oM8 oM9 oM10 oM11 mw mt mrim mjn mhm mpn mbm mgm mpi mst mam mac mro mbe mhi mmi mgr mtr mle) H) (hK : va_K D vwCl [(cI, .int), (cJ, .long)] s) (hm : mX8_at mw mt mpi a1 a2 = some r) (hsz : ls.size = nL) (hR : 3 ≤ R.frames ∧ 68 ≤ R.locals ∧ cells ≤ R.cells ∧ slots ≤ R.slots) (hst : (rest.map fun v => v.category).sum ≤ 8) (hd : decode cc pc = .ok (.invokevirtual idx, 3)) (kk : W p l e R s m args below meth c H locs cells slots Q (F0 m (pc + 3) ls (.int r :: rest))) : W p l e R s m args below meth c H locs cells slots Q (F0 m pc ls (.int a2 :: .int a1 :: .ref oM :: rest)) := by
  exact vp_callSi (va_Run.run (va_runV (As := [.int a1, .int a2]) (rest := rest) fx (tX8_at l hm) (cwV 2 fx.2.2.2.2 (tw_V hq qw_104 qw_105 qw_53 qw_106) rfl rfl rfl (by decide +kernel) ⟨hR.1, hR.2.1⟩) ⟨rdP_bl, va_recv hK hP (ci := 8) (q0 := 0) rfl rfl, rdP_ok hP hK⟩ rfl rfl hsz rfl (lv_room hst) hd ⟨hR.2.2.1, hR.2.2.2⟩)) (fun r9 hr9 => by first | (rw [hr9]; exact kk) | (rw [hr9.1]; exact kk))
-- X8_number
def mX8_number (mpi : Nat → Int64) (a1 : Int32) : Option Int64 :=
  (if (mX8_isPicture a1) = 0 then (some (-1 : Int64)) else gd (ib a1 5) ((some (mpi a1.toNatClampNeg))))
theorem dX8_number_0 : decode cX8_number 0 = .ok (.iload_n 1, 1) := by decide +kernel
theorem dX8_number_1 : decode cX8_number 1 = .ok (.invokestatic 71, 3) := by decide +kernel
theorem dX8_number_4 : decode cX8_number 4 = .ok (.ifCond .eq 12, 3) := by decide +kernel
theorem dX8_number_7 : decode cX8_number 7 = .ok (.aload_n 0, 1) := by decide +kernel
theorem dX8_number_8 : decode cX8_number 8 = .ok (.getfield 16, 3) := by decide +kernel
theorem dX8_number_11 : decode cX8_number 11 = .ok (.iload_n 1, 1) := by decide +kernel
theorem dX8_number_12 : decode cX8_number 12 = .ok (.laload, 1) := by decide +kernel
theorem dX8_number_13 : decode cX8_number 13 = .ok (.goto 6, 3) := by decide +kernel
theorem dX8_number_16 : decode cX8_number 16 = .ok (.ldc2_w 82, 3) := by decide +kernel
theorem dX8_number_19 : decode cX8_number 19 = .ok (.lreturn, 1) := by decide +kernel
set_option maxHeartbeats 4000000 in
set_option maxRecDepth 100000 in
theorem bX8_number {a1 : Int32} {r : Int64} (hx : p.tables.exec = Jvm.exec) (hb : c.code = cX8_number) (hml : c.maxLocals = 2) (hown : s.vm.findClass RX8 = some m.cls) (hts : ∀ w ∈ tw, w.before args s = true) (hK : va_K D vwCl [(cI, .int), (cJ, .long)] s) (hP : va_P D vwCl (wdM cJ cI oM oM1 oM2 oM3 oM4 oM5 oM6 oM7 oM8 oM9 oM10 oM11 mw mt mrim mjn mhm mpn mbm mgm mpi mst mam mac mro mbe mhi mmi mgr mtr mle) H) (hR : 2 ≤ R.frames ∧ 45 ≤ R.locals ∧ cells ≤ R.cells ∧ slots ≤ R.slots) (hm : mX8_number mpi a1 = some r) (ls : Array Slot) (hl : lv_has ls 2 [(0, .ref oM), (1, .int a1)]) (K : ∀ (pc : Nat) (ls : Array Slot), decode cX8_number pc = .ok (.lreturn, 1) → W p l e R s m args below meth c H locs cells slots Q (F0 m pc ls [.long r])) : W p l e R s m args below meth c H locs cells slots Q (F0 m 0 ls []) := by
  unfold mX8_number at hm
  refine lv_iload_n hx hb dX8_number_0 rfl (lv_at hl 1 rfl) ?_
  refine kX8_isPicture ⟨hx, hb, hml, hown, hts⟩ qw_101 hl.1 ⟨Nat.le_trans (by decide) hR.1, Nat.le_trans (by decide) hR.2.1, hR.2.2⟩ (Nat.le_of_ble_eq_true rfl) dX8_number_1 ?_
  refine lv_if_eq (tgt := 16) hx hb dX8_number_4 (by decide) (fun c2 => ?_) (fun c2 => ?_)
  · rw [if_pos c2] at hm
    refine lv_ldc2 (v := (-1 : Int64)) hx hb hown (hts _ qw_97) dX8_number_16 ?_
    have hm := Option.some.inj hm
    subst hm
    exact K 19 ls dX8_number_19
  · rw [if_neg c2] at hm
    refine lv_aload_n hx hb dX8_number_7 rfl (lv_at hl 0 rfl) ?_
    refine va_get (D := D) (ci := 8) (v := .ref oM1) (C := RX8) (T := TX8) (N := 19) hx hb hts tnX8 hown hK hP 0 rfl rfl 2 (by decide) (hts _ qw_103) (fun _ h9 => h9) rfl dX8_number_8 ?_
    refine lv_iload_n hx hb dX8_number_11 rfl (lv_at hl 1 rfl) ?_
    obtain ⟨g3, hm⟩ := gd_out hm
    refine va_lald hx hb hK hP 1 1 rfl rfl g3 dX8_number_12 ?_
    refine lv_goto (tgt := 19) hx hb dX8_number_13 (by decide) ?_
    have hm := Option.some.inj hm
    subst hm
    exact K 19 ls dX8_number_19
set_option maxHeartbeats 4000000 in
set_option maxRecDepth 100000 in
theorem tX8_number (l : Launch) {D : va_G} {a1 : Int32} {r : Int64} (hm : mX8_number mpi a1 = some r) : Met l yX8_number (.code yX8_number cX8_number 2 (some .long) :: tw) ({ frames := 2, cells := 0, slots := 0, locals := 45 } : Room) (rdP D [.ref oM, .int a1] (wdM cJ cI oM oM1 oM2 oM3 oM4 oM5 oM6 oM7 oM8 oM9 oM10 oM11 mw mt mrim mjn mhm mpn mbm mgm mpi mst mam mac mro mbe mhi mmi mgr mtr mle) [(cI, .int), (cJ, .long)]) (vp_Sl (fun q => q = r)) 0 0 (fun _ => False) := by
  refine Met.ofW (cc := cX8_number) (maxL := 2) (ret := (some .long)) (by decide) rfl ?_
  intro p e s m args below meth c s₁ B hml hv
  obtain ⟨rfl, hP, hK⟩ := hv
  have hx := B.exec
  have hb := B.bytes
  have hr := B.returns
  have hts : ∀ w ∈ tw, w.before _ s = true := fun w h => atoms_spec (ws := .code yX8_number cX8_number 2 (some .long) :: tw) B.pre w (List.mem_cons_of_mem _ h)
  have hown : s.vm.findClass RX8 = some m.cls := findClass_of_methodNamed B.named
  have hlocks := B.notSynchronized
  have hl := lv_entry ([.ref oM, .int a1]) (n := 2) (Nat.le_of_ble_eq_true rfl)
  rw [lg_entry_eq]
  generalize (lg_sl ([.ref oM, .int a1]) ++ List.replicate (2 - (lg_sl ([.ref oM, .int a1])).length) Slot.unset).toArray = ls at hl ⊢
  refine bX8_number hx hb hml hown hts hK hP ⟨Nat.le_of_ble_eq_true rfl, Nat.le_of_ble_eq_true rfl, Nat.zero_le _, Nat.zero_le _⟩ hm ls hl (fun pc ls hd => ?_)
  exact W.lret hx hb hr (fun t ht hW => ⟨r, rfl, rfl, ht⟩) (fun q h => by cases h) hd
set_option maxHeartbeats 4000000 in
set_option maxRecDepth 100000 in
theorem kX8_number {own : String} {cc : ByteArray} {nL idx pc : Nat} {ls : Array Slot} {rest : List Value} {a1 : Int32} {r : Int64} (fx : CallFix p m c cc nL s args tw own) (hq : Cond.methodLink own idx yX8_number ∈ tw) (hP : va_P D vwCl (wdM cJ cI oM oM1 oM2 oM3 oM4 oM5 oM6 oM7 oM8 oM9 oM10 oM11 mw mt mrim mjn mhm mpn mbm mgm mpi mst mam mac mro mbe mhi mmi mgr mtr mle) H) (hK : va_K D vwCl [(cI, .int), (cJ, .long)] s) (hm : mX8_number mpi a1 = some r) (hsz : ls.size = nL) (hR : 3 ≤ R.frames ∧ 66 ≤ R.locals ∧ cells ≤ R.cells ∧ slots ≤ R.slots) (hst : (rest.map fun v => v.category).sum ≤ 8) (hd : decode cc pc = .ok (.invokevirtual idx, 3)) (kk : W p l e R s m args below meth c H locs cells slots Q (F0 m (pc + 3) ls (.long r :: rest))) : W p l e R s m args below meth c H locs cells slots Q (F0 m pc ls (.int a1 :: .ref oM :: rest)) := by
  exact vp_callSl (va_Run.run (va_runV (As := [.int a1]) (rest := rest) fx (tX8_number l hm) (cwV 1 fx.2.2.2.2 (tw_V hq qw_107 qw_108 qw_53 qw_109) rfl rfl rfl (by decide +kernel) ⟨hR.1, hR.2.1⟩) ⟨rdP_bl, va_recv hK hP (ci := 8) (q0 := 0) rfl rfl, rdP_ok hP hK⟩ rfl rfl hsz rfl (lv_room hst) hd ⟨hR.2.2.1, hR.2.2.2⟩)) (fun r9 hr9 => by first | (rw [hr9]; exact kk) | (rw [hr9.1]; exact kk))
-- X8_would
def mX8_would (n : Nat) (mst : Nat → Int32) (mw : Int32) (mt : Int32) (mrim : Int32) (mpi : Nat → Int64) (a1 : Int32) (a2 : Int32) : Option Int32 :=
  (if (mX8_isPicture a1) = 0 then (some (-1 : Int32)) else (if (mX8_isAct a2) = 0 then (some (-2 : Int32)) else gd (ib a1 5) (gd (ib a1 5) (jb (mX8_acted n mst mw mt mrim (mpi a1.toNatClampNeg) a2) (fun (r7 : Int64) => jb (mX8_many n ((mpi a1.toNatClampNeg) ^^^ r7)) (fun (r9 : Int32) => (some r9)))))))
theorem dX8_would_0 : decode cX8_would 0 = .ok (.iload_n 1, 1) := by decide +kernel
theorem dX8_would_1 : decode cX8_would 1 = .ok (.invokestatic 71, 3) := by decide +kernel
theorem dX8_would_4 : decode cX8_would 4 = .ok (.ifCond .ne 5, 3) := by decide +kernel
theorem dX8_would_7 : decode cX8_would 7 = .ok (.iconst (-1), 1) := by decide +kernel
theorem dX8_would_8 : decode cX8_would 8 = .ok (.ireturn, 1) := by decide +kernel
theorem dX8_would_9 : decode cX8_would 9 = .ok (.iload_n 2, 1) := by decide +kernel
theorem dX8_would_10 : decode cX8_would 10 = .ok (.invokestatic 113, 3) := by decide +kernel
theorem dX8_would_13 : decode cX8_would 13 = .ok (.ifCond .eq 27, 3) := by decide +kernel
theorem dX8_would_16 : decode cX8_would 16 = .ok (.aload_n 0, 1) := by decide +kernel
theorem dX8_would_17 : decode cX8_would 17 = .ok (.getfield 16, 3) := by decide +kernel
theorem dX8_would_20 : decode cX8_would 20 = .ok (.iload_n 1, 1) := by decide +kernel
theorem dX8_would_21 : decode cX8_would 21 = .ok (.laload, 1) := by decide +kernel
theorem dX8_would_22 : decode cX8_would 22 = .ok (.aload_n 0, 1) := by decide +kernel
theorem dX8_would_23 : decode cX8_would 23 = .ok (.aload_n 0, 1) := by decide +kernel
theorem dX8_would_24 : decode cX8_would 24 = .ok (.getfield 16, 3) := by decide +kernel
theorem dX8_would_27 : decode cX8_would 27 = .ok (.iload_n 1, 1) := by decide +kernel
theorem dX8_would_28 : decode cX8_would 28 = .ok (.laload, 1) := by decide +kernel
theorem dX8_would_29 : decode cX8_would 29 = .ok (.iload_n 2, 1) := by decide +kernel
theorem dX8_would_30 : decode cX8_would 30 = .ok (.invokevirtual 116, 3) := by decide +kernel
theorem dX8_would_33 : decode cX8_would 33 = .ok (.lxor, 1) := by decide +kernel
theorem dX8_would_34 : decode cX8_would 34 = .ok (.invokestatic 88, 3) := by decide +kernel
theorem dX8_would_37 : decode cX8_would 37 = .ok (.goto 5, 3) := by decide +kernel
theorem dX8_would_40 : decode cX8_would 40 = .ok (.bipush (-2), 2) := by decide +kernel
theorem dX8_would_42 : decode cX8_would 42 = .ok (.ireturn, 1) := by decide +kernel
set_option maxHeartbeats 4000000 in
set_option maxRecDepth 100000 in
theorem bX8_would {n : Nat} {a1 : Int32} {a2 : Int32} {r : Int32} (hx : p.tables.exec = Jvm.exec) (hb : c.code = cX8_would) (hml : c.maxLocals = 3) (hown : s.vm.findClass RX8 = some m.cls) (hts : ∀ w ∈ tw, w.before args s = true) (hK : va_K D vwCl [(cI, .int), (cJ, .long)] s) (hP : va_P D vwCl (wdM cJ cI oM oM1 oM2 oM3 oM4 oM5 oM6 oM7 oM8 oM9 oM10 oM11 mw mt mrim mjn mhm mpn mbm mgm mpi mst mam mac mro mbe mhi mmi mgr mtr mle) H) (hR : 4 ≤ R.frames ∧ 102 ≤ R.locals ∧ cells ≤ R.cells ∧ slots ≤ R.slots) (hm : mX8_would n mst mw mt mrim mpi a1 a2 = some r) (ls : Array Slot) (hl : lv_has ls 3 [(0, .ref oM), (1, .int a1), (2, .int a2)]) (K : ∀ (pc : Nat) (ls : Array Slot), decode cX8_would pc = .ok (.ireturn, 1) → W p l e R s m args below meth c H locs cells slots Q (F0 m pc ls [.int r])) : W p l e R s m args below meth c H locs cells slots Q (F0 m 0 ls []) := by
  unfold mX8_would at hm
  refine lv_iload_n hx hb dX8_would_0 rfl (lv_at hl 1 rfl) ?_
  refine kX8_isPicture ⟨hx, hb, hml, hown, hts⟩ qw_101 hl.1 ⟨Nat.le_trans (by decide) hR.1, Nat.le_trans (by decide) hR.2.1, hR.2.2⟩ (Nat.le_of_ble_eq_true rfl) dX8_would_1 ?_
  refine lv_if_ne (tgt := 9) hx hb dX8_would_4 (by decide) (fun c2 => ?_) (fun c2 => ?_)
  · rw [if_neg c2] at hm
    refine lv_iload_n hx hb dX8_would_9 rfl (lv_at hl 2 rfl) ?_
    refine kX8_isAct ⟨hx, hb, hml, hown, hts⟩ qw_110 hl.1 ⟨Nat.le_trans (by decide) hR.1, Nat.le_trans (by decide) hR.2.1, hR.2.2⟩ (Nat.le_of_ble_eq_true rfl) dX8_would_10 ?_
    refine lv_if_eq (tgt := 40) hx hb dX8_would_13 (by decide) (fun c4 => ?_) (fun c4 => ?_)
    · rw [if_pos c4] at hm
      refine lv_bipush (v := (-2 : Int32)) hx hb dX8_would_40 (by decide) ?_
      have hm := Option.some.inj hm
      subst hm
      exact K 42 ls dX8_would_42
    · rw [if_neg c4] at hm
      refine lv_aload_n hx hb dX8_would_16 rfl (lv_at hl 0 rfl) ?_
      refine va_get (D := D) (ci := 8) (v := .ref oM1) (C := RX8) (T := TX8) (N := 19) hx hb hts tnX8 hown hK hP 0 rfl rfl 2 (by decide) (hts _ qw_103) (fun _ h9 => h9) rfl dX8_would_17 ?_
      refine lv_iload_n hx hb dX8_would_20 rfl (lv_at hl 1 rfl) ?_
      obtain ⟨g5, hm⟩ := gd_out hm
      refine va_lald hx hb hK hP 1 1 rfl rfl g5 dX8_would_21 ?_
      refine lv_aload_n hx hb dX8_would_22 rfl (lv_at hl 0 rfl) ?_
      refine lv_aload_n hx hb dX8_would_23 rfl (lv_at hl 0 rfl) ?_
      refine va_get (D := D) (ci := 8) (v := .ref oM1) (C := RX8) (T := TX8) (N := 19) hx hb hts tnX8 hown hK hP 0 rfl rfl 2 (by decide) (hts _ qw_103) (fun _ h9 => h9) rfl dX8_would_24 ?_
      refine lv_iload_n hx hb dX8_would_27 rfl (lv_at hl 1 rfl) ?_
      obtain ⟨g6, hm⟩ := gd_out hm
      refine va_lald hx hb hK hP 1 1 rfl rfl g6 dX8_would_28 ?_
      refine lv_iload_n hx hb dX8_would_29 rfl (lv_at hl 2 rfl) ?_
      obtain ⟨r7, h8, hm⟩ := jb_out hm
      refine kX8_acted ⟨hx, hb, hml, hown, hts⟩ qw_111 hP hK h8 hl.1 ⟨Nat.le_trans (by decide) hR.1, Nat.le_trans (by decide) hR.2.1, hR.2.2⟩ (Nat.le_of_ble_eq_true rfl) dX8_would_30 ?_
      refine lv_lxor hx hb dX8_would_33 ?_
      obtain ⟨r9, h10, hm⟩ := jb_out hm
      refine kX8_many ⟨hx, hb, hml, hown, hts⟩ qw_112 h10 hl.1 ⟨Nat.le_trans (by decide) hR.1, Nat.le_trans (by decide) hR.2.1, hR.2.2⟩ (Nat.le_of_ble_eq_true rfl) dX8_would_34 ?_
      refine lv_goto (tgt := 42) hx hb dX8_would_37 (by decide) ?_
      have hm := Option.some.inj hm
      subst hm
      exact K 42 ls dX8_would_42
  · rw [if_pos c2] at hm
    refine lv_iconst (v := (-1 : Int32)) hx hb dX8_would_7 (by decide) ?_
    have hm := Option.some.inj hm
    subst hm
    exact K 8 ls dX8_would_8
set_option maxHeartbeats 4000000 in
set_option maxRecDepth 100000 in
theorem tX8_would (l : Launch) {D : va_G} {n : Nat} {a1 : Int32} {a2 : Int32} {r : Int32} (hm : mX8_would n mst mw mt mrim mpi a1 a2 = some r) : Met l yX8_would (.code yX8_would cX8_would 3 (some .int) :: tw) ({ frames := 4, cells := 0, slots := 0, locals := 102 } : Room) (rdP D [.ref oM, .int a1, .int a2] (wdM cJ cI oM oM1 oM2 oM3 oM4 oM5 oM6 oM7 oM8 oM9 oM10 oM11 mw mt mrim mjn mhm mpn mbm mgm mpi mst mam mac mro mbe mhi mmi mgr mtr mle) [(cI, .int), (cJ, .long)]) (vp_Si (fun q => q = r)) 0 0 (fun _ => False) := by
  refine Met.ofW (cc := cX8_would) (maxL := 3) (ret := (some .int)) (by decide) rfl ?_
  intro p e s m args below meth c s₁ B hml hv
  obtain ⟨rfl, hP, hK⟩ := hv
  have hx := B.exec
  have hb := B.bytes
  have hr := B.returns
  have hts : ∀ w ∈ tw, w.before _ s = true := fun w h => atoms_spec (ws := .code yX8_would cX8_would 3 (some .int) :: tw) B.pre w (List.mem_cons_of_mem _ h)
  have hown : s.vm.findClass RX8 = some m.cls := findClass_of_methodNamed B.named
  have hlocks := B.notSynchronized
  have hl := lv_entry ([.ref oM, .int a1, .int a2]) (n := 3) (Nat.le_of_ble_eq_true rfl)
  rw [lg_entry_eq]
  generalize (lg_sl ([.ref oM, .int a1, .int a2]) ++ List.replicate (3 - (lg_sl ([.ref oM, .int a1, .int a2])).length) Slot.unset).toArray = ls at hl ⊢
  refine bX8_would hx hb hml hown hts hK hP ⟨Nat.le_of_ble_eq_true rfl, Nat.le_of_ble_eq_true rfl, Nat.zero_le _, Nat.zero_le _⟩ hm ls hl (fun pc ls hd => ?_)
  exact W.iret hx hb hr (fun t ht hW => ⟨r, rfl, rfl, ht⟩) (fun q h => by cases h) hd
set_option maxHeartbeats 4000000 in
set_option maxRecDepth 100000 in
theorem kX8_would {own : String} {cc : ByteArray} {nL idx pc : Nat} {ls : Array Slot} {rest : List Value} {n : Nat} {a1 : Int32} {a2 : Int32} {r : Int32} (fx : CallFix p m c cc nL s args tw own) (hq : Cond.methodLink own idx yX8_would ∈ tw) (hP : va_P D vwCl (wdM cJ cI oM oM1 oM2 oM3 oM4 oM5 oM6 oM7 oM8 oM9 oM10 oM11 mw mt mrim mjn mhm mpn mbm mgm mpi mst mam mac mro mbe mhi mmi mgr mtr mle) H) (hK : va_K D vwCl [(cI, .int), (cJ, .long)] s) (hm : mX8_would n mst mw mt mrim mpi a1 a2 = some r) (hsz : ls.size = nL) (hR : 5 ≤ R.frames ∧ 124 ≤ R.locals ∧ cells ≤ R.cells ∧ slots ≤ R.slots) (hst : (rest.map fun v => v.category).sum ≤ 8) (hd : decode cc pc = .ok (.invokevirtual idx, 3)) (kk : W p l e R s m args below meth c H locs cells slots Q (F0 m (pc + 3) ls (.int r :: rest))) : W p l e R s m args below meth c H locs cells slots Q (F0 m pc ls (.int a2 :: .int a1 :: .ref oM :: rest)) := by
  exact vp_callSi (va_Run.run (va_runV (As := [.int a1, .int a2]) (rest := rest) fx (tX8_would l hm) (cwV 2 fx.2.2.2.2 (tw_V hq qw_113 qw_114 qw_53 qw_115) rfl rfl rfl (by decide +kernel) ⟨hR.1, hR.2.1⟩) ⟨rdP_bl, va_recv hK hP (ci := 8) (q0 := 0) rfl rfl, rdP_ok hP hK⟩ rfl rfl hsz rfl (lv_room hst) hd ⟨hR.2.2.1, hR.2.2.2⟩)) (fun r9 hr9 => by first | (rw [hr9]; exact kk) | (rw [hr9.1]; exact kk))
-- X8_isProgram
def mX8_isProgram (a0 : Int32) : Int32 :=
  (mX8_in ((a0).toInt64) (0 : Int64) (2 : Int64))
theorem dX8_isProgram_0 : decode cX8_isProgram 0 = .ok (.iload_n 0, 1) := by decide +kernel
theorem dX8_isProgram_1 : decode cX8_isProgram 1 = .ok (.i2l, 1) := by decide +kernel
theorem dX8_isProgram_2 : decode cX8_isProgram 2 = .ok (.lconst 0, 1) := by decide +kernel
theorem dX8_isProgram_3 : decode cX8_isProgram 3 = .ok (.ldc2_w 67, 3) := by decide +kernel
theorem dX8_isProgram_6 : decode cX8_isProgram 6 = .ok (.invokestatic 63, 3) := by decide +kernel
theorem dX8_isProgram_9 : decode cX8_isProgram 9 = .ok (.ireturn, 1) := by decide +kernel
set_option maxHeartbeats 4000000 in
set_option maxRecDepth 100000 in
theorem bX8_isProgram {a0 : Int32} {r : Int32} (hx : p.tables.exec = Jvm.exec) (hb : c.code = cX8_isProgram) (hml : c.maxLocals = 1) (hown : s.vm.findClass RX8 = some m.cls) (hts : ∀ w ∈ tw, w.before args s = true) (hR : 1 ≤ R.frames ∧ 25 ≤ R.locals ∧ cells ≤ R.cells ∧ slots ≤ R.slots) (hm : mX8_isProgram a0 = r) (ls : Array Slot) (hl : lv_has ls 1 [(0, .int a0)]) (K : ∀ (pc : Nat) (ls : Array Slot), decode cX8_isProgram pc = .ok (.ireturn, 1) → narrow .boolean (.int r) = .int r → W p l e R s m args below meth c H locs cells slots Q (F0 m pc ls [.int r])) : W p l e R s m args below meth c H locs cells slots Q (F0 m 0 ls []) := by
  unfold mX8_isProgram at hm
  refine lv_iload_n hx hb dX8_isProgram_0 rfl (lv_at hl 0 rfl) ?_
  refine lv_i2l (v := ((a0).toInt64)) hx hb dX8_isProgram_1 rfl ?_
  refine lv_lconst (v := (0 : Int64)) hx hb dX8_isProgram_2 (by decide) ?_
  refine lv_ldc2 (v := (2 : Int64)) hx hb hown (hts _ qw_116) dX8_isProgram_3 ?_
  refine kX8_in ⟨hx, hb, hml, hown, hts⟩ qw_65 hl.1 ⟨Nat.le_trans (by decide) hR.1, Nat.le_trans (by decide) hR.2.1, hR.2.2⟩ (Nat.le_of_ble_eq_true rfl) dX8_isProgram_6 ?_
  subst hm
  exact K 9 ls dX8_isProgram_9 (zn_in _ _ _)
set_option maxHeartbeats 4000000 in
set_option maxRecDepth 100000 in
theorem tX8_isProgram (l : Launch) {a0 : Int32} {r : Int32} (hm : mX8_isProgram a0 = r) : Met l yX8_isProgram (.code yX8_isProgram cX8_isProgram 1 (some .boolean) :: tw) ({ frames := 1, cells := 0, slots := 0, locals := 25 } : Room) (va_Pc [.int a0] (fun _ => True)) (vp_Si (fun q => q = r ∧ narrow .boolean (.int q) = .int q)) 0 0 (fun _ => False) := by
  refine Met.ofW (cc := cX8_isProgram) (maxL := 1) (ret := (some .boolean)) (by decide) rfl ?_
  intro p e s m args below meth c s₁ B hml hv
  obtain ⟨rfl, -⟩ := hv
  have hx := B.exec
  have hb := B.bytes
  have hr := B.returns
  have hts : ∀ w ∈ tw, w.before _ s = true := fun w h => atoms_spec (ws := .code yX8_isProgram cX8_isProgram 1 (some .boolean) :: tw) B.pre w (List.mem_cons_of_mem _ h)
  have hown : s.vm.findClass RX8 = some m.cls := findClass_of_methodNamed B.named
  have hlocks := B.notSynchronized
  have hl := lv_entry ([.int a0]) (n := 1) (Nat.le_of_ble_eq_true rfl)
  rw [lg_entry_eq]
  generalize (lg_sl ([.int a0]) ++ List.replicate (1 - (lg_sl ([.int a0])).length) Slot.unset).toArray = ls at hl ⊢
  refine bX8_isProgram hx hb hml hown hts ⟨Nat.le_of_ble_eq_true rfl, Nat.le_of_ble_eq_true rfl, Nat.zero_le _, Nat.zero_le _⟩ hm ls hl (fun pc ls hd hz => ?_)
  exact W.zret hx hb hr hz (fun t ht hW => ⟨r, rfl, ⟨rfl, hz⟩, ht⟩) (fun q h => by cases h) hd
set_option maxHeartbeats 4000000 in
set_option maxRecDepth 100000 in
theorem kX8_isProgram {own : String} {cc : ByteArray} {nL idx pc : Nat} {ls : Array Slot} {rest : List Value} {a0 : Int32} (fx : CallFix p m c cc nL s args tw own) (hq : Cond.methodLink own idx yX8_isProgram ∈ tw) (hsz : ls.size = nL) (hR : 2 ≤ R.frames ∧ 45 ≤ R.locals ∧ cells ≤ R.cells ∧ slots ≤ R.slots) (hst : (rest.map fun v => v.category).sum ≤ 8) (hd : decode cc pc = .ok (.invokestatic idx, 3)) (kk : W p l e R s m args below meth c H locs cells slots Q (F0 m (pc + 3) ls (.int (mX8_isProgram a0) :: rest))) : W p l e R s m args below meth c H locs cells slots Q (F0 m pc ls (.int a0 :: rest)) := by
  exact vp_callSi (va_Run.run (va_runS (As := [.int a0]) (rest := rest) fx (tX8_isProgram l rfl) (va_cwS 1 fx.2.2.2.2 (tw_S2 hq qw_117 qw_53 qw_118) rfl rfl rfl (by decide +kernel) ⟨hR.1, hR.2.1⟩) ⟨fun a U g mk q => q, fun U hU hW => ⟨rfl, trivial⟩⟩ rfl rfl hsz rfl (lv_room hst) hd ⟨hR.2.2.1, hR.2.2.2⟩)) (fun r9 hr9 => by first | (rw [hr9]; exact kk) | (rw [hr9.1]; exact kk))
-- X8_ran
def mX8_ran_L6 (n : Nat) (v3 : Int32) (mam : Nat → Int32) (mst : Nat → Int32) (mw : Int32) (mt : Int32) (mrim : Int32) (mac : Nat → Int32) : Nat → (Int64) → (Int32) → Option ((Int64))
  | 0, _, _ => none
  | k + 1, v4, v6 => gd (ib v3 3) ((if (mam v3.toNatClampNeg) ≤ v6 then some (v4) else gd (ib (((8 : Int32) * v3) + v6) 24) (jb (mX8_acted n mst mw mt mrim v4 (mac (((8 : Int32) * v3) + v6).toNatClampNeg)) (fun (r5 : Int64) => mX8_ran_L6 n v3 mam mst mw mt mrim mac k r5 (v6 + (1 : Int32))))))
def mX8_ran (n : Nat) (mam : Nat → Int32) (mst : Nat → Int32) (mw : Int32) (mt : Int32) (mrim : Int32) (mac : Nat → Int32) (a1 : Int64) (a3 : Int32) : Option Int64 :=
  jb (mX8_ran_L6 n a3 mam mst mw mt mrim mac n a1 (0 : Int32)) (fun (y7 : Int64) => (some y7))
theorem dX8_ran_0 : decode cX8_ran 0 = .ok (.lload_n 1, 1) := by decide +kernel
theorem dX8_ran_1 : decode cX8_ran 1 = .ok (.lstore 4, 2) := by decide +kernel
theorem dX8_ran_3 : decode cX8_ran 3 = .ok (.iconst 0, 1) := by decide +kernel
theorem dX8_ran_4 : decode cX8_ran 4 = .ok (.istore 6, 2) := by decide +kernel
theorem dX8_ran_6 : decode cX8_ran 6 = .ok (.iload 6, 2) := by decide +kernel
theorem dX8_ran_8 : decode cX8_ran 8 = .ok (.aload_n 0, 1) := by decide +kernel
theorem dX8_ran_9 : decode cX8_ran 9 = .ok (.getfield 30, 3) := by decide +kernel
theorem dX8_ran_12 : decode cX8_ran 12 = .ok (.iload_n 3, 1) := by decide +kernel
theorem dX8_ran_13 : decode cX8_ran 13 = .ok (.iaload, 1) := by decide +kernel
theorem dX8_ran_14 : decode cX8_ran 14 = .ok (.if_icmp .ge 29, 3) := by decide +kernel
theorem dX8_ran_17 : decode cX8_ran 17 = .ok (.aload_n 0, 1) := by decide +kernel
theorem dX8_ran_18 : decode cX8_ran 18 = .ok (.lload 4, 2) := by decide +kernel
theorem dX8_ran_20 : decode cX8_ran 20 = .ok (.aload_n 0, 1) := by decide +kernel
theorem dX8_ran_21 : decode cX8_ran 21 = .ok (.getfield 33, 3) := by decide +kernel
theorem dX8_ran_24 : decode cX8_ran 24 = .ok (.bipush 8, 2) := by decide +kernel
theorem dX8_ran_26 : decode cX8_ran 26 = .ok (.iload_n 3, 1) := by decide +kernel
theorem dX8_ran_27 : decode cX8_ran 27 = .ok (.imul, 1) := by decide +kernel
theorem dX8_ran_28 : decode cX8_ran 28 = .ok (.iload 6, 2) := by decide +kernel
theorem dX8_ran_30 : decode cX8_ran 30 = .ok (.iadd, 1) := by decide +kernel
theorem dX8_ran_31 : decode cX8_ran 31 = .ok (.iaload, 1) := by decide +kernel
theorem dX8_ran_32 : decode cX8_ran 32 = .ok (.invokevirtual 116, 3) := by decide +kernel
theorem dX8_ran_35 : decode cX8_ran 35 = .ok (.lstore 4, 2) := by decide +kernel
theorem dX8_ran_37 : decode cX8_ran 37 = .ok (.iinc 6 1, 3) := by decide +kernel
theorem dX8_ran_40 : decode cX8_ran 40 = .ok (.goto (-34), 3) := by decide +kernel
theorem dX8_ran_43 : decode cX8_ran 43 = .ok (.lload 4, 2) := by decide +kernel
theorem dX8_ran_45 : decode cX8_ran 45 = .ok (.lreturn, 1) := by decide +kernel
set_option maxHeartbeats 4000000 in
set_option maxRecDepth 100000 in
theorem wX8_ran_L6 {n : Nat} {v3 : Int32} (hx : p.tables.exec = Jvm.exec) (hb : c.code = cX8_ran) (hml : c.maxLocals = 7) (hown : s.vm.findClass RX8 = some m.cls) (hts : ∀ w ∈ tw, w.before args s = true) (hK : va_K D vwCl [(cI, .int), (cJ, .long)] s) (hP : va_P D vwCl (wdM cJ cI oM oM1 oM2 oM3 oM4 oM5 oM6 oM7 oM8 oM9 oM10 oM11 mw mt mrim mjn mhm mpn mbm mgm mpi mst mam mac mro mbe mhi mmi mgr mtr mle) H) (hR : 4 ≤ R.frames ∧ 102 ≤ R.locals ∧ cells ≤ R.cells ∧ slots ≤ R.slots) : ∀ (k : Nat) (v4 : Int64) (v6 : Int32) (x4 : Int64), mX8_ran_L6 n v3 mam mst mw mt mrim mac k v4 v6 = some (x4) → ∀ ls : Array Slot, lv_has ls 7 [(0, .ref oM), (3, .int v3), (4, .long v4), (6, .int v6)] → (∀ ls : Array Slot, lv_has ls 7 [(4, .long x4)] → W p l e R s m args below meth c H locs cells slots Q (F0 m 43 ls [])) → W p l e R s m args below meth c H locs cells slots Q (F0 m 6 ls []) := by
  intro k
  induction k with
  | zero => intro v4 v6 x4 hm; rw [mX8_ran_L6] at hm; cases hm
  | succ k ih =>
    intro v4 v6 x4 hm ls hl K0
    rw [mX8_ran_L6] at hm
    refine lv_iload hx hb dX8_ran_6 (lv_at hl 3 rfl) ?_
    refine lv_aload_n hx hb dX8_ran_8 rfl (lv_at hl 0 rfl) ?_
    refine va_get (D := D) (ci := 8) (v := .ref oM3) (C := RX8) (T := TX8) (N := 19) hx hb hts tnX8 hown hK hP 0 rfl rfl 6 (by decide) (hts _ qw_119) (fun _ h9 => h9) rfl dX8_ran_9 ?_
    refine lv_iload_n hx hb dX8_ran_12 rfl (lv_at hl 1 rfl) ?_
    obtain ⟨g2, hm⟩ := gd_out hm
    refine va_iald hx hb hK hP 3 0 rfl rfl g2 dX8_ran_13 ?_
    refine lv_icmp_ge (tgt := 43) hx hb dX8_ran_14 (by decide) (fun c3 => ?_) (fun c3 => ?_)
    · rw [if_pos c3] at hm
      have hm := Option.some.inj hm
      have e9 : x4 = v4 := (congrArg (fun q => q) hm).symm
      rw [e9] at K0
      exact K0 ls (lv_sub hl [2] rfl)
    · rw [if_neg c3] at hm
      refine lv_aload_n hx hb dX8_ran_17 rfl (lv_at hl 0 rfl) ?_
      refine lv_lload hx hb dX8_ran_18 (lv_at hl 2 rfl) ?_
      refine lv_aload_n hx hb dX8_ran_20 rfl (lv_at hl 0 rfl) ?_
      refine va_get (D := D) (ci := 8) (v := .ref oM4) (C := RX8) (T := TX8) (N := 19) hx hb hts tnX8 hown hK hP 0 rfl rfl 7 (by decide) (hts _ qw_120) (fun _ h9 => h9) rfl dX8_ran_21 ?_
      refine lv_bipush (v := (8 : Int32)) hx hb dX8_ran_24 (by decide) ?_
      refine lv_iload_n hx hb dX8_ran_26 rfl (lv_at hl 1 rfl) ?_
      refine lv_imul hx hb dX8_ran_27 ?_
      refine lv_iload hx hb dX8_ran_28 (lv_at hl 3 rfl) ?_
      refine lv_iadd hx hb dX8_ran_30 ?_
      obtain ⟨g4, hm⟩ := gd_out hm
      refine va_iald hx hb hK hP 4 0 rfl rfl g4 dX8_ran_31 ?_
      obtain ⟨r5, h6, hm⟩ := jb_out hm
      refine kX8_acted ⟨hx, hb, hml, hown, hts⟩ qw_111 hP hK h6 hl.1 ⟨Nat.le_trans (by decide) hR.1, Nat.le_trans (by decide) hR.2.1, hR.2.2⟩ (Nat.le_of_ble_eq_true rfl) dX8_ran_32 ?_
      refine lv_lstore (lv' := [(4, .long r5), (0, .ref oM), (3, .int v3), (6, .int v6)]) hx hb dX8_ran_35 hl (by decide) rfl (fun ls hl => ?_)
      refine lv_iinc (v := (v6 + (1 : Int32))) (lv' := [(6, .int (v6 + (1 : Int32))), (4, .long r5), (0, .ref oM), (3, .int v3)]) hx hb dX8_ran_37 hl (k := 3) rfl (by rfl) (by decide) rfl (fun ls hl => ?_)
      refine lv_goto (tgt := 6) hx hb dX8_ran_40 (by decide) ?_
      exact ih _ _ _ hm ls (lv_sub hl [2, 3, 1, 0] rfl) K0
set_option maxHeartbeats 4000000 in
set_option maxRecDepth 100000 in
theorem bX8_ran {n : Nat} {a1 : Int64} {a3 : Int32} {r : Int64} (hx : p.tables.exec = Jvm.exec) (hb : c.code = cX8_ran) (hml : c.maxLocals = 7) (hown : s.vm.findClass RX8 = some m.cls) (hts : ∀ w ∈ tw, w.before args s = true) (hK : va_K D vwCl [(cI, .int), (cJ, .long)] s) (hP : va_P D vwCl (wdM cJ cI oM oM1 oM2 oM3 oM4 oM5 oM6 oM7 oM8 oM9 oM10 oM11 mw mt mrim mjn mhm mpn mbm mgm mpi mst mam mac mro mbe mhi mmi mgr mtr mle) H) (hR : 4 ≤ R.frames ∧ 102 ≤ R.locals ∧ cells ≤ R.cells ∧ slots ≤ R.slots) (hm : mX8_ran n mam mst mw mt mrim mac a1 a3 = some r) (ls : Array Slot) (hl : lv_has ls 7 [(0, .ref oM), (1, .long a1), (3, .int a3)]) (K : ∀ (pc : Nat) (ls : Array Slot), decode cX8_ran pc = .ok (.lreturn, 1) → W p l e R s m args below meth c H locs cells slots Q (F0 m pc ls [.long r])) : W p l e R s m args below meth c H locs cells slots Q (F0 m 0 ls []) := by
  unfold mX8_ran at hm
  refine lv_lload_n hx hb dX8_ran_0 rfl (lv_at hl 1 rfl) ?_
  refine lv_lstore (lv' := [(4, .long a1), (0, .ref oM), (1, .long a1), (3, .int a3)]) hx hb dX8_ran_1 hl (by decide) rfl (fun ls hl => ?_)
  refine lv_iconst (v := (0 : Int32)) hx hb dX8_ran_3 (by decide) ?_
  refine lv_istore (lv' := [(6, .int (0 : Int32)), (4, .long a1), (0, .ref oM), (1, .long a1), (3, .int a3)]) hx hb dX8_ran_4 hl (by decide) rfl (fun ls hl => ?_)
  obtain ⟨y7, h8, hm⟩ := jb_out hm
  refine wX8_ran_L6 hx hb hml hown hts hK hP hR n _ _ _  h8 ls (lv_sub hl [2, 4, 1, 0] rfl) (fun ls hl => ?_)
  refine lv_lload hx hb dX8_ran_43 (lv_at hl 0 rfl) ?_
  have hm := Option.some.inj hm
  subst hm
  exact K 45 ls dX8_ran_45
set_option maxHeartbeats 4000000 in
set_option maxRecDepth 100000 in
theorem tX8_ran (l : Launch) {D : va_G} {n : Nat} {a1 : Int64} {a3 : Int32} {r : Int64} (hm : mX8_ran n mam mst mw mt mrim mac a1 a3 = some r) : Met l yX8_ran (.code yX8_ran cX8_ran 7 (some .long) :: tw) ({ frames := 4, cells := 0, slots := 0, locals := 102 } : Room) (rdP D [.ref oM, .long a1, .int a3] (wdM cJ cI oM oM1 oM2 oM3 oM4 oM5 oM6 oM7 oM8 oM9 oM10 oM11 mw mt mrim mjn mhm mpn mbm mgm mpi mst mam mac mro mbe mhi mmi mgr mtr mle) [(cI, .int), (cJ, .long)]) (vp_Sl (fun q => q = r)) 0 0 (fun _ => False) := by
  refine Met.ofW (cc := cX8_ran) (maxL := 7) (ret := (some .long)) (by decide) rfl ?_
  intro p e s m args below meth c s₁ B hml hv
  obtain ⟨rfl, hP, hK⟩ := hv
  have hx := B.exec
  have hb := B.bytes
  have hr := B.returns
  have hts : ∀ w ∈ tw, w.before _ s = true := fun w h => atoms_spec (ws := .code yX8_ran cX8_ran 7 (some .long) :: tw) B.pre w (List.mem_cons_of_mem _ h)
  have hown : s.vm.findClass RX8 = some m.cls := findClass_of_methodNamed B.named
  have hlocks := B.notSynchronized
  have hl := lv_entry ([.ref oM, .long a1, .int a3]) (n := 7) (Nat.le_of_ble_eq_true rfl)
  rw [lg_entry_eq]
  generalize (lg_sl ([.ref oM, .long a1, .int a3]) ++ List.replicate (7 - (lg_sl ([.ref oM, .long a1, .int a3])).length) Slot.unset).toArray = ls at hl ⊢
  refine bX8_ran hx hb hml hown hts hK hP ⟨Nat.le_of_ble_eq_true rfl, Nat.le_of_ble_eq_true rfl, Nat.zero_le _, Nat.zero_le _⟩ hm ls hl (fun pc ls hd => ?_)
  exact W.lret hx hb hr (fun t ht hW => ⟨r, rfl, rfl, ht⟩) (fun q h => by cases h) hd
set_option maxHeartbeats 4000000 in
set_option maxRecDepth 100000 in
theorem kX8_ran {own : String} {cc : ByteArray} {nL idx pc : Nat} {ls : Array Slot} {rest : List Value} {n : Nat} {a1 : Int64} {a3 : Int32} {r : Int64} (fx : CallFix p m c cc nL s args tw own) (hq : Cond.methodLink own idx yX8_ran ∈ tw) (hP : va_P D vwCl (wdM cJ cI oM oM1 oM2 oM3 oM4 oM5 oM6 oM7 oM8 oM9 oM10 oM11 mw mt mrim mjn mhm mpn mbm mgm mpi mst mam mac mro mbe mhi mmi mgr mtr mle) H) (hK : va_K D vwCl [(cI, .int), (cJ, .long)] s) (hm : mX8_ran n mam mst mw mt mrim mac a1 a3 = some r) (hsz : ls.size = nL) (hR : 5 ≤ R.frames ∧ 128 ≤ R.locals ∧ cells ≤ R.cells ∧ slots ≤ R.slots) (hst : (rest.map fun v => v.category).sum ≤ 8) (hd : decode cc pc = .ok (.invokevirtual idx, 3)) (kk : W p l e R s m args below meth c H locs cells slots Q (F0 m (pc + 3) ls (.long r :: rest))) : W p l e R s m args below meth c H locs cells slots Q (F0 m pc ls (.int a3 :: .long a1 :: .ref oM :: rest)) := by
  exact vp_callSl (va_Run.run (va_runV (As := [.long a1, .int a3]) (rest := rest) fx (tX8_ran l hm) (cwV 2 fx.2.2.2.2 (tw_V hq qw_121 qw_122 qw_53 qw_123) rfl rfl rfl (by decide +kernel) ⟨hR.1, hR.2.1⟩) ⟨rdP_bl, va_recv hK hP (ci := 8) (q0 := 0) rfl rfl, rdP_ok hP hK⟩ rfl rfl hsz rfl (lv_room hst) hd ⟨hR.2.2.1, hR.2.2.2⟩)) (fun r9 hr9 => by first | (rw [hr9]; exact kk) | (rw [hr9.1]; exact kk))
-- X8_actOf
def mX8_actOf (a0 : Int32) : Int32 :=
  (if (4 : Int32) ≤ a0 then (if (8 : Int32) ≤ a0 then (40 : Int32) else (a0 + (6 : Int32))) else a0)
theorem dX8_actOf_0 : decode cX8_actOf 0 = .ok (.iload_n 0, 1) := by decide +kernel
theorem dX8_actOf_1 : decode cX8_actOf 1 = .ok (.iconst 4, 1) := by decide +kernel
theorem dX8_actOf_2 : decode cX8_actOf 2 = .ok (.if_icmp .ge 7, 3) := by decide +kernel
theorem dX8_actOf_5 : decode cX8_actOf 5 = .ok (.iload_n 0, 1) := by decide +kernel
theorem dX8_actOf_6 : decode cX8_actOf 6 = .ok (.goto 18, 3) := by decide +kernel
theorem dX8_actOf_9 : decode cX8_actOf 9 = .ok (.iload_n 0, 1) := by decide +kernel
theorem dX8_actOf_10 : decode cX8_actOf 10 = .ok (.bipush 8, 2) := by decide +kernel
theorem dX8_actOf_12 : decode cX8_actOf 12 = .ok (.if_icmp .ge 10, 3) := by decide +kernel
theorem dX8_actOf_15 : decode cX8_actOf 15 = .ok (.iload_n 0, 1) := by decide +kernel
theorem dX8_actOf_16 : decode cX8_actOf 16 = .ok (.bipush 6, 2) := by decide +kernel
theorem dX8_actOf_18 : decode cX8_actOf 18 = .ok (.iadd, 1) := by decide +kernel
theorem dX8_actOf_19 : decode cX8_actOf 19 = .ok (.goto 5, 3) := by decide +kernel
theorem dX8_actOf_22 : decode cX8_actOf 22 = .ok (.bipush 40, 2) := by decide +kernel
theorem dX8_actOf_24 : decode cX8_actOf 24 = .ok (.ireturn, 1) := by decide +kernel
set_option maxHeartbeats 4000000 in
set_option maxRecDepth 100000 in
theorem bX8_actOf {a0 : Int32} {r : Int32} (hx : p.tables.exec = Jvm.exec) (hb : c.code = cX8_actOf) (hml : c.maxLocals = 1) (hown : s.vm.findClass RX8 = some m.cls) (hts : ∀ w ∈ tw, w.before args s = true) (hR : 0 ≤ R.frames ∧ 0 ≤ R.locals ∧ cells ≤ R.cells ∧ slots ≤ R.slots) (hm : mX8_actOf a0 = r) (ls : Array Slot) (hl : lv_has ls 1 [(0, .int a0)]) (K : ∀ (pc : Nat) (ls : Array Slot), decode cX8_actOf pc = .ok (.ireturn, 1) → W p l e R s m args below meth c H locs cells slots Q (F0 m pc ls [.int r])) : W p l e R s m args below meth c H locs cells slots Q (F0 m 0 ls []) := by
  unfold mX8_actOf at hm
  refine lv_iload_n hx hb dX8_actOf_0 rfl (lv_at hl 0 rfl) ?_
  refine lv_iconst (v := (4 : Int32)) hx hb dX8_actOf_1 (by decide) ?_
  refine lv_icmp_ge (tgt := 9) hx hb dX8_actOf_2 (by decide) (fun c1 => ?_) (fun c1 => ?_)
  · rw [if_pos c1] at hm
    refine lv_iload_n hx hb dX8_actOf_9 rfl (lv_at hl 0 rfl) ?_
    refine lv_bipush (v := (8 : Int32)) hx hb dX8_actOf_10 (by decide) ?_
    refine lv_icmp_ge (tgt := 22) hx hb dX8_actOf_12 (by decide) (fun c2 => ?_) (fun c2 => ?_)
    · rw [if_pos c2] at hm
      refine lv_bipush (v := (40 : Int32)) hx hb dX8_actOf_22 (by decide) ?_
      subst hm
      exact K 24 ls dX8_actOf_24
    · rw [if_neg c2] at hm
      refine lv_iload_n hx hb dX8_actOf_15 rfl (lv_at hl 0 rfl) ?_
      refine lv_bipush (v := (6 : Int32)) hx hb dX8_actOf_16 (by decide) ?_
      refine lv_iadd hx hb dX8_actOf_18 ?_
      refine lv_goto (tgt := 24) hx hb dX8_actOf_19 (by decide) ?_
      subst hm
      exact K 24 ls dX8_actOf_24
  · rw [if_neg c1] at hm
    refine lv_iload_n hx hb dX8_actOf_5 rfl (lv_at hl 0 rfl) ?_
    refine lv_goto (tgt := 24) hx hb dX8_actOf_6 (by decide) ?_
    subst hm
    exact K 24 ls dX8_actOf_24
set_option maxHeartbeats 4000000 in
set_option maxRecDepth 100000 in
theorem tX8_actOf (l : Launch) {a0 : Int32} {r : Int32} (hm : mX8_actOf a0 = r) : Met l yX8_actOf (.code yX8_actOf cX8_actOf 1 (some .int) :: tw) ({ frames := 0, cells := 0, slots := 0, locals := 0 } : Room) (va_Pc [.int a0] (fun _ => True)) (vp_Si (fun q => q = r)) 0 0 (fun _ => False) := by
  refine Met.ofW (cc := cX8_actOf) (maxL := 1) (ret := (some .int)) (by decide) rfl ?_
  intro p e s m args below meth c s₁ B hml hv
  obtain ⟨rfl, -⟩ := hv
  have hx := B.exec
  have hb := B.bytes
  have hr := B.returns
  have hts : ∀ w ∈ tw, w.before _ s = true := fun w h => atoms_spec (ws := .code yX8_actOf cX8_actOf 1 (some .int) :: tw) B.pre w (List.mem_cons_of_mem _ h)
  have hown : s.vm.findClass RX8 = some m.cls := findClass_of_methodNamed B.named
  have hlocks := B.notSynchronized
  have hl := lv_entry ([.int a0]) (n := 1) (Nat.le_of_ble_eq_true rfl)
  rw [lg_entry_eq]
  generalize (lg_sl ([.int a0]) ++ List.replicate (1 - (lg_sl ([.int a0])).length) Slot.unset).toArray = ls at hl ⊢
  refine bX8_actOf hx hb hml hown hts ⟨Nat.le_of_ble_eq_true rfl, Nat.le_of_ble_eq_true rfl, Nat.zero_le _, Nat.zero_le _⟩ hm ls hl (fun pc ls hd => ?_)
  exact W.iret hx hb hr (fun t ht hW => ⟨r, rfl, rfl, ht⟩) (fun q h => by cases h) hd
set_option maxHeartbeats 4000000 in
set_option maxRecDepth 100000 in
theorem kX8_actOf {own : String} {cc : ByteArray} {nL idx pc : Nat} {ls : Array Slot} {rest : List Value} {a0 : Int32} (fx : CallFix p m c cc nL s args tw own) (hq : Cond.methodLink own idx yX8_actOf ∈ tw) (hsz : ls.size = nL) (hR : 1 ≤ R.frames ∧ 20 ≤ R.locals ∧ cells ≤ R.cells ∧ slots ≤ R.slots) (hst : (rest.map fun v => v.category).sum ≤ 8) (hd : decode cc pc = .ok (.invokestatic idx, 3)) (kk : W p l e R s m args below meth c H locs cells slots Q (F0 m (pc + 3) ls (.int (mX8_actOf a0) :: rest))) : W p l e R s m args below meth c H locs cells slots Q (F0 m pc ls (.int a0 :: rest)) := by
  exact vp_callSi (va_Run.run (va_runS (As := [.int a0]) (rest := rest) fx (tX8_actOf l rfl) (va_cwS 1 fx.2.2.2.2 (tw_S2 hq qw_124 qw_53 qw_125) rfl rfl rfl (by decide +kernel) ⟨hR.1, hR.2.1⟩) ⟨fun a U g mk q => q, fun U hU hW => ⟨rfl, trivial⟩⟩ rfl rfl hsz rfl (lv_room hst) hd ⟨hR.2.2.1, hR.2.2.2⟩)) (fun r9 hr9 => by first | (rw [hr9]; exact kk) | (rw [hr9.1]; exact kk))
-- X8_differ
def mX8_differ_L30 (n : Nat) (mw : Int32) (mt : Int32) (mam : Nat → Int32) (mst : Nat → Int32) (mrim : Int32) (mac : Nat → Int32) (v1 : Int32) (v2 : Int32) : Nat → (Int32) → Option (((Int32)) ⊕ (Unit))
  | 0, _ => none
  | k + 1, v3 => (if ((1 : Int32) <<< ((mX8_cells mw mt) &&& 31)) ≤ v3 then some (.inr (())) else jb (mX8_ran n mam mst mw mt mrim mac ((v3).toInt64) v1) (fun (r10 : Int64) => jb (mX8_ran n mam mst mw mt mrim mac ((v3).toInt64) v2) (fun (r12 : Int64) => (if r10 = r12 then mX8_differ_L30 n mw mt mam mst mrim mac v1 v2 k (v3 + (1 : Int32)) else some (.inl (v3))))))
def mX8_differ (n : Nat) (mw : Int32) (mt : Int32) (mam : Nat → Int32) (mst : Nat → Int32) (mrim : Int32) (mac : Nat → Int32) (a1 : Int32) (a2 : Int32) : Option Int32 :=
  (if (mX8_isProgram a1) = 0 then (some (-1 : Int32)) else (if (mX8_isProgram a2) = 0 then (some (-1 : Int32)) else (if (mX8_cells mw mt) ≤ (12 : Int32) then jb (mX8_differ_L30 n mw mt mam mst mrim mac a1 a2 n (0 : Int32)) (fun q => el2 q (fun (y15 : Int32) => (some y15)) (fun (_ : Unit) => (some (-9 : Int32)))) else (some (-3 : Int32)))))
theorem dX8_differ_0 : decode cX8_differ 0 = .ok (.iload_n 1, 1) := by decide +kernel
theorem dX8_differ_1 : decode cX8_differ 1 = .ok (.invokestatic 119, 3) := by decide +kernel
theorem dX8_differ_4 : decode cX8_differ 4 = .ok (.ifCond .eq 10, 3) := by decide +kernel
theorem dX8_differ_7 : decode cX8_differ 7 = .ok (.iload_n 2, 1) := by decide +kernel
theorem dX8_differ_8 : decode cX8_differ 8 = .ok (.invokestatic 119, 3) := by decide +kernel
theorem dX8_differ_11 : decode cX8_differ 11 = .ok (.ifCond .ne 5, 3) := by decide +kernel
theorem dX8_differ_14 : decode cX8_differ 14 = .ok (.iconst (-1), 1) := by decide +kernel
theorem dX8_differ_15 : decode cX8_differ 15 = .ok (.ireturn, 1) := by decide +kernel
theorem dX8_differ_16 : decode cX8_differ 16 = .ok (.aload_n 0, 1) := by decide +kernel
theorem dX8_differ_17 : decode cX8_differ 17 = .ok (.invokevirtual 57, 3) := by decide +kernel
theorem dX8_differ_20 : decode cX8_differ 20 = .ok (.bipush 12, 2) := by decide +kernel
theorem dX8_differ_22 : decode cX8_differ 22 = .ok (.if_icmp .le 6, 3) := by decide +kernel
theorem dX8_differ_25 : decode cX8_differ 25 = .ok (.bipush (-3), 2) := by decide +kernel
theorem dX8_differ_27 : decode cX8_differ 27 = .ok (.ireturn, 1) := by decide +kernel
theorem dX8_differ_28 : decode cX8_differ 28 = .ok (.iconst 0, 1) := by decide +kernel
theorem dX8_differ_29 : decode cX8_differ 29 = .ok (.istore_n 3, 1) := by decide +kernel
theorem dX8_differ_30 : decode cX8_differ 30 = .ok (.iload_n 3, 1) := by decide +kernel
theorem dX8_differ_31 : decode cX8_differ 31 = .ok (.iconst 1, 1) := by decide +kernel
theorem dX8_differ_32 : decode cX8_differ 32 = .ok (.aload_n 0, 1) := by decide +kernel
theorem dX8_differ_33 : decode cX8_differ 33 = .ok (.invokevirtual 57, 3) := by decide +kernel
theorem dX8_differ_36 : decode cX8_differ 36 = .ok (.ishl, 1) := by decide +kernel
theorem dX8_differ_37 : decode cX8_differ 37 = .ok (.if_icmp .ge 29, 3) := by decide +kernel
theorem dX8_differ_40 : decode cX8_differ 40 = .ok (.aload_n 0, 1) := by decide +kernel
theorem dX8_differ_41 : decode cX8_differ 41 = .ok (.iload_n 3, 1) := by decide +kernel
theorem dX8_differ_42 : decode cX8_differ 42 = .ok (.i2l, 1) := by decide +kernel
theorem dX8_differ_43 : decode cX8_differ 43 = .ok (.iload_n 1, 1) := by decide +kernel
theorem dX8_differ_44 : decode cX8_differ 44 = .ok (.invokevirtual 122, 3) := by decide +kernel
theorem dX8_differ_47 : decode cX8_differ 47 = .ok (.aload_n 0, 1) := by decide +kernel
theorem dX8_differ_48 : decode cX8_differ 48 = .ok (.iload_n 3, 1) := by decide +kernel
theorem dX8_differ_49 : decode cX8_differ 49 = .ok (.i2l, 1) := by decide +kernel
theorem dX8_differ_50 : decode cX8_differ 50 = .ok (.iload_n 2, 1) := by decide +kernel
theorem dX8_differ_51 : decode cX8_differ 51 = .ok (.invokevirtual 122, 3) := by decide +kernel
theorem dX8_differ_54 : decode cX8_differ 54 = .ok (.lcmp, 1) := by decide +kernel
theorem dX8_differ_55 : decode cX8_differ 55 = .ok (.ifCond .eq 5, 3) := by decide +kernel
theorem dX8_differ_58 : decode cX8_differ 58 = .ok (.iload_n 3, 1) := by decide +kernel
theorem dX8_differ_59 : decode cX8_differ 59 = .ok (.ireturn, 1) := by decide +kernel
theorem dX8_differ_60 : decode cX8_differ 60 = .ok (.iinc 3 1, 3) := by decide +kernel
theorem dX8_differ_63 : decode cX8_differ 63 = .ok (.goto (-33), 3) := by decide +kernel
theorem dX8_differ_66 : decode cX8_differ 66 = .ok (.bipush (-9), 2) := by decide +kernel
theorem dX8_differ_68 : decode cX8_differ 68 = .ok (.ireturn, 1) := by decide +kernel
set_option maxHeartbeats 4000000 in
set_option maxRecDepth 100000 in
theorem wX8_differ_L30 {n : Nat} {v1 : Int32} {v2 : Int32} (hx : p.tables.exec = Jvm.exec) (hb : c.code = cX8_differ) (hml : c.maxLocals = 4) (hown : s.vm.findClass RX8 = some m.cls) (hts : ∀ w ∈ tw, w.before args s = true) (hK : va_K D vwCl [(cI, .int), (cJ, .long)] s) (hP : va_P D vwCl (wdM cJ cI oM oM1 oM2 oM3 oM4 oM5 oM6 oM7 oM8 oM9 oM10 oM11 mw mt mrim mjn mhm mpn mbm mgm mpi mst mam mac mro mbe mhi mmi mgr mtr mle) H) (hR : 5 ≤ R.frames ∧ 128 ≤ R.locals ∧ cells ≤ R.cells ∧ slots ≤ R.slots) : ∀ (k : Nat) (v3 : Int32) (x : ((Int32)) ⊕ (Unit)), mX8_differ_L30 n mw mt mam mst mrim mac v1 v2 k v3 = some x → ∀ ls : Array Slot, lv_has ls 4 [(0, .ref oM), (1, .int v1), (2, .int v2), (3, .int v3)] → (∀ (x3 : Int32), x = .inl (x3) → ∀ ls : Array Slot, lv_has ls 4 [(3, .int x3)] → W p l e R s m args below meth c H locs cells slots Q (F0 m 58 ls [])) → (x = .inr (()) → ∀ ls : Array Slot, lv_has ls 4 [] → W p l e R s m args below meth c H locs cells slots Q (F0 m 66 ls [])) → W p l e R s m args below meth c H locs cells slots Q (F0 m 30 ls []) := by
  intro k
  induction k with
  | zero => intro v3 x hm; rw [mX8_differ_L30] at hm; cases hm
  | succ k ih =>
    intro v3 x hm ls hl K0 K1
    rw [mX8_differ_L30] at hm
    refine lv_iload_n hx hb dX8_differ_30 rfl (lv_at hl 3 rfl) ?_
    refine lv_iconst (v := (1 : Int32)) hx hb dX8_differ_31 (by decide) ?_
    refine lv_aload_n hx hb dX8_differ_32 rfl (lv_at hl 0 rfl) ?_
    refine kX8_cells ⟨hx, hb, hml, hown, hts⟩ qw_60 hP hK hl.1 ⟨Nat.le_trans (by decide) hR.1, Nat.le_trans (by decide) hR.2.1, hR.2.2⟩ (Nat.le_of_ble_eq_true rfl) dX8_differ_33 ?_
    refine lv_ishl hx hb dX8_differ_36 ?_
    refine lv_icmp_ge (tgt := 66) hx hb dX8_differ_37 (by decide) (fun c9 => ?_) (fun c9 => ?_)
    · rw [if_pos c9] at hm
      exact K1  (Option.some.inj hm).symm ls (lv_sub hl [] rfl)
    · rw [if_neg c9] at hm
      refine lv_aload_n hx hb dX8_differ_40 rfl (lv_at hl 0 rfl) ?_
      refine lv_iload_n hx hb dX8_differ_41 rfl (lv_at hl 3 rfl) ?_
      refine lv_i2l (v := ((v3).toInt64)) hx hb dX8_differ_42 rfl ?_
      refine lv_iload_n hx hb dX8_differ_43 rfl (lv_at hl 1 rfl) ?_
      obtain ⟨r10, h11, hm⟩ := jb_out hm
      refine kX8_ran ⟨hx, hb, hml, hown, hts⟩ qw_127 hP hK h11 hl.1 ⟨Nat.le_trans (by decide) hR.1, Nat.le_trans (by decide) hR.2.1, hR.2.2⟩ (Nat.le_of_ble_eq_true rfl) dX8_differ_44 ?_
      refine lv_aload_n hx hb dX8_differ_47 rfl (lv_at hl 0 rfl) ?_
      refine lv_iload_n hx hb dX8_differ_48 rfl (lv_at hl 3 rfl) ?_
      refine lv_i2l (v := ((v3).toInt64)) hx hb dX8_differ_49 rfl ?_
      refine lv_iload_n hx hb dX8_differ_50 rfl (lv_at hl 2 rfl) ?_
      obtain ⟨r12, h13, hm⟩ := jb_out hm
      refine kX8_ran ⟨hx, hb, hml, hown, hts⟩ qw_127 hP hK h13 hl.1 ⟨Nat.le_trans (by decide) hR.1, Nat.le_trans (by decide) hR.2.1, hR.2.2⟩ (Nat.le_of_ble_eq_true rfl) dX8_differ_51 ?_
      refine W.lcmp hx hb dX8_differ_54 ?_
      refine lv_if_eq (tgt := 60) hx hb dX8_differ_55 (by decide) (fun c14 => ?_) (fun c14 => ?_)
      · have c14 := (lg_cmp_eq r10 r12).mp c14
        rw [if_pos c14] at hm
        refine lv_iinc (v := (v3 + (1 : Int32))) (lv' := [(3, .int (v3 + (1 : Int32))), (0, .ref oM), (1, .int v1), (2, .int v2)]) hx hb dX8_differ_60 hl (k := 3) rfl (by rfl) (by decide) rfl (fun ls hl => ?_)
        refine lv_goto (tgt := 30) hx hb dX8_differ_63 (by decide) ?_
        exact ih _ _ hm ls (lv_sub hl [1, 2, 3, 0] rfl) K0 K1
      · have c14 := fun h9 => c14 ((lg_cmp_eq r10 r12).mpr h9)
        rw [if_neg c14] at hm
        exact K0 _ (Option.some.inj hm).symm ls (lv_sub hl [3] rfl)
set_option maxHeartbeats 4000000 in
set_option maxRecDepth 100000 in
theorem bX8_differ {n : Nat} {a1 : Int32} {a2 : Int32} {r : Int32} (hx : p.tables.exec = Jvm.exec) (hb : c.code = cX8_differ) (hml : c.maxLocals = 4) (hown : s.vm.findClass RX8 = some m.cls) (hts : ∀ w ∈ tw, w.before args s = true) (hK : va_K D vwCl [(cI, .int), (cJ, .long)] s) (hP : va_P D vwCl (wdM cJ cI oM oM1 oM2 oM3 oM4 oM5 oM6 oM7 oM8 oM9 oM10 oM11 mw mt mrim mjn mhm mpn mbm mgm mpi mst mam mac mro mbe mhi mmi mgr mtr mle) H) (hR : 5 ≤ R.frames ∧ 128 ≤ R.locals ∧ cells ≤ R.cells ∧ slots ≤ R.slots) (hm : mX8_differ n mw mt mam mst mrim mac a1 a2 = some r) (ls : Array Slot) (hl : lv_has ls 4 [(0, .ref oM), (1, .int a1), (2, .int a2)]) (K : ∀ (pc : Nat) (ls : Array Slot), decode cX8_differ pc = .ok (.ireturn, 1) → W p l e R s m args below meth c H locs cells slots Q (F0 m pc ls [.int r])) : W p l e R s m args below meth c H locs cells slots Q (F0 m 0 ls []) := by
  unfold mX8_differ at hm
  refine lv_iload_n hx hb dX8_differ_0 rfl (lv_at hl 1 rfl) ?_
  refine kX8_isProgram ⟨hx, hb, hml, hown, hts⟩ qw_126 hl.1 ⟨Nat.le_trans (by decide) hR.1, Nat.le_trans (by decide) hR.2.1, hR.2.2⟩ (Nat.le_of_ble_eq_true rfl) dX8_differ_1 ?_
  refine lv_if_eq (tgt := 14) hx hb dX8_differ_4 (by decide) (fun c2 => ?_) (fun c2 => ?_)
  · rw [if_pos c2] at hm
    refine lv_iconst (v := (-1 : Int32)) hx hb dX8_differ_14 (by decide) ?_
    have hm := Option.some.inj hm
    subst hm
    exact K 15 ls dX8_differ_15
  · rw [if_neg c2] at hm
    refine lv_iload_n hx hb dX8_differ_7 rfl (lv_at hl 2 rfl) ?_
    refine kX8_isProgram ⟨hx, hb, hml, hown, hts⟩ qw_126 hl.1 ⟨Nat.le_trans (by decide) hR.1, Nat.le_trans (by decide) hR.2.1, hR.2.2⟩ (Nat.le_of_ble_eq_true rfl) dX8_differ_8 ?_
    refine lv_if_ne (tgt := 16) hx hb dX8_differ_11 (by decide) (fun c4 => ?_) (fun c4 => ?_)
    · rw [if_neg c4] at hm
      refine lv_aload_n hx hb dX8_differ_16 rfl (lv_at hl 0 rfl) ?_
      refine kX8_cells ⟨hx, hb, hml, hown, hts⟩ qw_60 hP hK hl.1 ⟨Nat.le_trans (by decide) hR.1, Nat.le_trans (by decide) hR.2.1, hR.2.2⟩ (Nat.le_of_ble_eq_true rfl) dX8_differ_17 ?_
      refine lv_bipush (v := (12 : Int32)) hx hb dX8_differ_20 (by decide) ?_
      refine lv_icmp_le (tgt := 28) hx hb dX8_differ_22 (by decide) (fun c6 => ?_) (fun c6 => ?_)
      · rw [if_pos c6] at hm
        refine lv_iconst (v := (0 : Int32)) hx hb dX8_differ_28 (by decide) ?_
        refine lv_istore_n (lv' := [(3, .int (0 : Int32)), (0, .ref oM), (1, .int a1), (2, .int a2)]) hx hb dX8_differ_29 rfl hl (by decide) rfl (fun ls hl => ?_)
        obtain ⟨z17, h16, hm⟩ := jb_out hm
        refine wX8_differ_L30 hx hb hml hown hts hK hP hR n _ _ h16 ls (lv_sub hl [1, 2, 3, 0] rfl) ?_ ?_
        · intro y15 e18 ls hl
          subst e18
          simp only [el2] at hm
          refine lv_iload_n hx hb dX8_differ_58 rfl (lv_at hl 0 rfl) ?_
          have hm := Option.some.inj hm
          subst hm
          exact K 59 ls dX8_differ_59
        · intro e19 ls hl
          subst e19
          simp only [el2] at hm
          refine lv_bipush (v := (-9 : Int32)) hx hb dX8_differ_66 (by decide) ?_
          have hm := Option.some.inj hm
          subst hm
          exact K 68 ls dX8_differ_68
      · rw [if_neg c6] at hm
        refine lv_bipush (v := (-3 : Int32)) hx hb dX8_differ_25 (by decide) ?_
        have hm := Option.some.inj hm
        subst hm
        exact K 27 ls dX8_differ_27
    · rw [if_pos c4] at hm
      refine lv_iconst (v := (-1 : Int32)) hx hb dX8_differ_14 (by decide) ?_
      have hm := Option.some.inj hm
      subst hm
      exact K 15 ls dX8_differ_15
set_option maxHeartbeats 4000000 in
set_option maxRecDepth 100000 in
theorem tX8_differ (l : Launch) {D : va_G} {n : Nat} {a1 : Int32} {a2 : Int32} {r : Int32} (hm : mX8_differ n mw mt mam mst mrim mac a1 a2 = some r) : Met l yX8_differ (.code yX8_differ cX8_differ 4 (some .int) :: tw) ({ frames := 5, cells := 0, slots := 0, locals := 128 } : Room) (rdP D [.ref oM, .int a1, .int a2] (wdM cJ cI oM oM1 oM2 oM3 oM4 oM5 oM6 oM7 oM8 oM9 oM10 oM11 mw mt mrim mjn mhm mpn mbm mgm mpi mst mam mac mro mbe mhi mmi mgr mtr mle) [(cI, .int), (cJ, .long)]) (vp_Si (fun q => q = r)) 0 0 (fun _ => False) := by
  refine Met.ofW (cc := cX8_differ) (maxL := 4) (ret := (some .int)) (by decide) rfl ?_
  intro p e s m args below meth c s₁ B hml hv
  obtain ⟨rfl, hP, hK⟩ := hv
  have hx := B.exec
  have hb := B.bytes
  have hr := B.returns
  have hts : ∀ w ∈ tw, w.before _ s = true := fun w h => atoms_spec (ws := .code yX8_differ cX8_differ 4 (some .int) :: tw) B.pre w (List.mem_cons_of_mem _ h)
  have hown : s.vm.findClass RX8 = some m.cls := findClass_of_methodNamed B.named
  have hlocks := B.notSynchronized
  have hl := lv_entry ([.ref oM, .int a1, .int a2]) (n := 4) (Nat.le_of_ble_eq_true rfl)
  rw [lg_entry_eq]
  generalize (lg_sl ([.ref oM, .int a1, .int a2]) ++ List.replicate (4 - (lg_sl ([.ref oM, .int a1, .int a2])).length) Slot.unset).toArray = ls at hl ⊢
  refine bX8_differ hx hb hml hown hts hK hP ⟨Nat.le_of_ble_eq_true rfl, Nat.le_of_ble_eq_true rfl, Nat.zero_le _, Nat.zero_le _⟩ hm ls hl (fun pc ls hd => ?_)
  exact W.iret hx hb hr (fun t ht hW => ⟨r, rfl, rfl, ht⟩) (fun q h => by cases h) hd
set_option maxHeartbeats 4000000 in
set_option maxRecDepth 100000 in
theorem kX8_differ {own : String} {cc : ByteArray} {nL idx pc : Nat} {ls : Array Slot} {rest : List Value} {n : Nat} {a1 : Int32} {a2 : Int32} {r : Int32} (fx : CallFix p m c cc nL s args tw own) (hq : Cond.methodLink own idx yX8_differ ∈ tw) (hP : va_P D vwCl (wdM cJ cI oM oM1 oM2 oM3 oM4 oM5 oM6 oM7 oM8 oM9 oM10 oM11 mw mt mrim mjn mhm mpn mbm mgm mpi mst mam mac mro mbe mhi mmi mgr mtr mle) H) (hK : va_K D vwCl [(cI, .int), (cJ, .long)] s) (hm : mX8_differ n mw mt mam mst mrim mac a1 a2 = some r) (hsz : ls.size = nL) (hR : 6 ≤ R.frames ∧ 151 ≤ R.locals ∧ cells ≤ R.cells ∧ slots ≤ R.slots) (hst : (rest.map fun v => v.category).sum ≤ 8) (hd : decode cc pc = .ok (.invokevirtual idx, 3)) (kk : W p l e R s m args below meth c H locs cells slots Q (F0 m (pc + 3) ls (.int r :: rest))) : W p l e R s m args below meth c H locs cells slots Q (F0 m pc ls (.int a2 :: .int a1 :: .ref oM :: rest)) := by
  exact vp_callSi (va_Run.run (va_runV (As := [.int a1, .int a2]) (rest := rest) fx (tX8_differ l hm) (cwV 2 fx.2.2.2.2 (tw_V hq qw_128 qw_129 qw_53 qw_130) rfl rfl rfl (by decide +kernel) ⟨hR.1, hR.2.1⟩) ⟨rdP_bl, va_recv hK hP (ci := 8) (q0 := 0) rfl rfl, rdP_ok hP hK⟩ rfl rfl hsz rfl (lv_room hst) hd ⟨hR.2.2.1, hR.2.2.2⟩)) (fun r9 hr9 => by first | (rw [hr9]; exact kk) | (rw [hr9.1]; exact kk))
-- X8_pieceOf
def mX8_pieceOf_L35 (n : Nat) (mw : Int32) (mt : Int32) (v5 : Int32) (v1 : Int64) : Nat → (Int64) → (Int64) → Option ((Int64))
  | 0, _, _ => none
  | k + 1, v6, v8 => (if v8 = v6 then some (v6) else jb (mX8_grown n mw mt v8 v5) (fun (r9 : Int64) => mX8_pieceOf_L35 n mw mt v5 v1 k v8 (r9 &&& v1)))
def mX8_pieceOf (n : Nat) (mw : Int32) (mt : Int32) (a1 : Int64) (a3 : Int32) (a4 : Int32) : Option Int64 :=
  jl (if a4 = (8 : Int32) then (511 : Int32) else (186 : Int32)) (fun j1 => jb (mX8_grown n mw mt (jlshl (1 : Int64) a3) j1) (fun (r5 : Int64) => jb (mX8_pieceOf_L35 n mw mt j1 a1 n (jlshl (1 : Int64) a3) (r5 &&& a1)) (fun (y11 : Int64) => (some y11))))
theorem dX8_pieceOf_0 : decode cX8_pieceOf 0 = .ok (.iload 4, 2) := by decide +kernel
theorem dX8_pieceOf_2 : decode cX8_pieceOf 2 = .ok (.bipush 8, 2) := by decide +kernel
theorem dX8_pieceOf_4 : decode cX8_pieceOf 4 = .ok (.if_icmp .ne 9, 3) := by decide +kernel
theorem dX8_pieceOf_7 : decode cX8_pieceOf 7 = .ok (.sipush 511, 3) := by decide +kernel
theorem dX8_pieceOf_10 : decode cX8_pieceOf 10 = .ok (.goto 6, 3) := by decide +kernel
theorem dX8_pieceOf_13 : decode cX8_pieceOf 13 = .ok (.sipush 186, 3) := by decide +kernel
theorem dX8_pieceOf_16 : decode cX8_pieceOf 16 = .ok (.istore 5, 2) := by decide +kernel
theorem dX8_pieceOf_18 : decode cX8_pieceOf 18 = .ok (.lconst 1, 1) := by decide +kernel
theorem dX8_pieceOf_19 : decode cX8_pieceOf 19 = .ok (.iload_n 3, 1) := by decide +kernel
theorem dX8_pieceOf_20 : decode cX8_pieceOf 20 = .ok (.lshl, 1) := by decide +kernel
theorem dX8_pieceOf_21 : decode cX8_pieceOf 21 = .ok (.lstore 6, 2) := by decide +kernel
theorem dX8_pieceOf_23 : decode cX8_pieceOf 23 = .ok (.aload_n 0, 1) := by decide +kernel
theorem dX8_pieceOf_24 : decode cX8_pieceOf 24 = .ok (.lload 6, 2) := by decide +kernel
theorem dX8_pieceOf_26 : decode cX8_pieceOf 26 = .ok (.iload 5, 2) := by decide +kernel
theorem dX8_pieceOf_28 : decode cX8_pieceOf 28 = .ok (.invokevirtual 102, 3) := by decide +kernel
theorem dX8_pieceOf_31 : decode cX8_pieceOf 31 = .ok (.lload_n 1, 1) := by decide +kernel
theorem dX8_pieceOf_32 : decode cX8_pieceOf 32 = .ok (.land, 1) := by decide +kernel
theorem dX8_pieceOf_33 : decode cX8_pieceOf 33 = .ok (.lstore 8, 2) := by decide +kernel
theorem dX8_pieceOf_35 : decode cX8_pieceOf 35 = .ok (.lload 8, 2) := by decide +kernel
theorem dX8_pieceOf_37 : decode cX8_pieceOf 37 = .ok (.lload 6, 2) := by decide +kernel
theorem dX8_pieceOf_39 : decode cX8_pieceOf 39 = .ok (.lcmp, 1) := by decide +kernel
theorem dX8_pieceOf_40 : decode cX8_pieceOf 40 = .ok (.ifCond .eq 22, 3) := by decide +kernel
theorem dX8_pieceOf_43 : decode cX8_pieceOf 43 = .ok (.lload 8, 2) := by decide +kernel
theorem dX8_pieceOf_45 : decode cX8_pieceOf 45 = .ok (.lstore 6, 2) := by decide +kernel
theorem dX8_pieceOf_47 : decode cX8_pieceOf 47 = .ok (.aload_n 0, 1) := by decide +kernel
theorem dX8_pieceOf_48 : decode cX8_pieceOf 48 = .ok (.lload 6, 2) := by decide +kernel
theorem dX8_pieceOf_50 : decode cX8_pieceOf 50 = .ok (.iload 5, 2) := by decide +kernel
theorem dX8_pieceOf_52 : decode cX8_pieceOf 52 = .ok (.invokevirtual 102, 3) := by decide +kernel
theorem dX8_pieceOf_55 : decode cX8_pieceOf 55 = .ok (.lload_n 1, 1) := by decide +kernel
theorem dX8_pieceOf_56 : decode cX8_pieceOf 56 = .ok (.land, 1) := by decide +kernel
theorem dX8_pieceOf_57 : decode cX8_pieceOf 57 = .ok (.lstore 8, 2) := by decide +kernel
theorem dX8_pieceOf_59 : decode cX8_pieceOf 59 = .ok (.goto (-24), 3) := by decide +kernel
theorem dX8_pieceOf_62 : decode cX8_pieceOf 62 = .ok (.lload 6, 2) := by decide +kernel
theorem dX8_pieceOf_64 : decode cX8_pieceOf 64 = .ok (.lreturn, 1) := by decide +kernel
set_option maxHeartbeats 4000000 in
set_option maxRecDepth 100000 in
theorem wX8_pieceOf_L35 {n : Nat} {v1 : Int64} {v5 : Int32} (hx : p.tables.exec = Jvm.exec) (hb : c.code = cX8_pieceOf) (hml : c.maxLocals = 10) (hown : s.vm.findClass RX8 = some m.cls) (hts : ∀ w ∈ tw, w.before args s = true) (hK : va_K D vwCl [(cI, .int), (cJ, .long)] s) (hP : va_P D vwCl (wdM cJ cI oM oM1 oM2 oM3 oM4 oM5 oM6 oM7 oM8 oM9 oM10 oM11 mw mt mrim mjn mhm mpn mbm mgm mpi mst mam mac mro mbe mhi mmi mgr mtr mle) H) (hR : 3 ≤ R.frames ∧ 77 ≤ R.locals ∧ cells ≤ R.cells ∧ slots ≤ R.slots) : ∀ (k : Nat) (v6 : Int64) (v8 : Int64) (x6 : Int64), mX8_pieceOf_L35 n mw mt v5 v1 k v6 v8 = some (x6) → ∀ ls : Array Slot, lv_has ls 10 [(0, .ref oM), (1, .long v1), (5, .int v5), (6, .long v6), (8, .long v8)] → (∀ ls : Array Slot, lv_has ls 10 [(6, .long x6)] → W p l e R s m args below meth c H locs cells slots Q (F0 m 62 ls [])) → W p l e R s m args below meth c H locs cells slots Q (F0 m 35 ls []) := by
  intro k
  induction k with
  | zero => intro v6 v8 x6 hm; rw [mX8_pieceOf_L35] at hm; cases hm
  | succ k ih =>
    intro v6 v8 x6 hm ls hl K0
    rw [mX8_pieceOf_L35] at hm
    refine lv_lload hx hb dX8_pieceOf_35 (lv_at hl 4 rfl) ?_
    refine lv_lload hx hb dX8_pieceOf_37 (lv_at hl 3 rfl) ?_
    refine W.lcmp hx hb dX8_pieceOf_39 ?_
    refine lv_if_eq (tgt := 62) hx hb dX8_pieceOf_40 (by decide) (fun c8 => ?_) (fun c8 => ?_)
    · have c8 := (lg_cmp_eq v8 v6).mp c8
      rw [if_pos c8] at hm
      have hm := Option.some.inj hm
      have e9 : x6 = v6 := (congrArg (fun q => q) hm).symm
      rw [e9] at K0
      exact K0 ls (lv_sub hl [3] rfl)
    · have c8 := fun h9 => c8 ((lg_cmp_eq v8 v6).mpr h9)
      rw [if_neg c8] at hm
      refine lv_lload hx hb dX8_pieceOf_43 (lv_at hl 4 rfl) ?_
      refine lv_lstore (lv' := [(6, .long v8), (0, .ref oM), (1, .long v1), (5, .int v5), (8, .long v8)]) hx hb dX8_pieceOf_45 hl (by decide) rfl (fun ls hl => ?_)
      refine lv_aload_n hx hb dX8_pieceOf_47 rfl (lv_at hl 1 rfl) ?_
      refine lv_lload hx hb dX8_pieceOf_48 (lv_at hl 0 rfl) ?_
      refine lv_iload hx hb dX8_pieceOf_50 (lv_at hl 3 rfl) ?_
      obtain ⟨r9, h10, hm⟩ := jb_out hm
      refine kX8_grown ⟨hx, hb, hml, hown, hts⟩ qw_94 hP hK h10 hl.1 ⟨Nat.le_trans (by decide) hR.1, Nat.le_trans (by decide) hR.2.1, hR.2.2⟩ (Nat.le_of_ble_eq_true rfl) dX8_pieceOf_52 ?_
      refine lv_lload_n hx hb dX8_pieceOf_55 rfl (lv_at hl 2 rfl) ?_
      refine lv_land hx hb dX8_pieceOf_56 ?_
      refine lv_lstore (lv' := [(8, .long (r9 &&& v1)), (6, .long v8), (0, .ref oM), (1, .long v1), (5, .int v5)]) hx hb dX8_pieceOf_57 hl (by decide) rfl (fun ls hl => ?_)
      refine lv_goto (tgt := 35) hx hb dX8_pieceOf_59 (by decide) ?_
      exact ih _ _ _ hm ls (lv_sub hl [2, 3, 4, 1, 0] rfl) K0
set_option maxHeartbeats 4000000 in
set_option maxRecDepth 100000 in
theorem bX8_pieceOf {n : Nat} {a1 : Int64} {a3 : Int32} {a4 : Int32} {r : Int64} (hx : p.tables.exec = Jvm.exec) (hb : c.code = cX8_pieceOf) (hml : c.maxLocals = 10) (hown : s.vm.findClass RX8 = some m.cls) (hts : ∀ w ∈ tw, w.before args s = true) (hK : va_K D vwCl [(cI, .int), (cJ, .long)] s) (hP : va_P D vwCl (wdM cJ cI oM oM1 oM2 oM3 oM4 oM5 oM6 oM7 oM8 oM9 oM10 oM11 mw mt mrim mjn mhm mpn mbm mgm mpi mst mam mac mro mbe mhi mmi mgr mtr mle) H) (hR : 3 ≤ R.frames ∧ 77 ≤ R.locals ∧ cells ≤ R.cells ∧ slots ≤ R.slots) (hm : mX8_pieceOf n mw mt a1 a3 a4 = some r) (ls : Array Slot) (hl : lv_has ls 10 [(0, .ref oM), (1, .long a1), (3, .int a3), (4, .int a4)]) (K : ∀ (pc : Nat) (ls : Array Slot), decode cX8_pieceOf pc = .ok (.lreturn, 1) → W p l e R s m args below meth c H locs cells slots Q (F0 m pc ls [.long r])) : W p l e R s m args below meth c H locs cells slots Q (F0 m 0 ls []) := by
  unfold mX8_pieceOf at hm
  refine lv_iload hx hb dX8_pieceOf_0 (lv_at hl 3 rfl) ?_
  refine lv_bipush (v := (8 : Int32)) hx hb dX8_pieceOf_2 (by decide) ?_
  obtain ⟨j1, hi2, hm⟩ := jl_out hm
  have key3 : ∀ (ls : Array Slot), lv_has ls 10 [(0, .ref oM), (1, .long a1), (3, .int a3)] → W p l e R s m args below meth c H locs cells slots Q (F0 m 16 ls [.int j1]) := by
    intro ls hl
    refine lv_istore (lv' := [(5, .int j1), (0, .ref oM), (1, .long a1), (3, .int a3)]) hx hb dX8_pieceOf_16 hl (by decide) rfl (fun ls hl => ?_)
    refine lv_lconst (v := (1 : Int64)) hx hb dX8_pieceOf_18 (by decide) ?_
    refine lv_iload_n hx hb dX8_pieceOf_19 rfl (lv_at hl 3 rfl) ?_
    refine lv_lshl (v := (jlshl (1 : Int64) a3)) hx hb dX8_pieceOf_20 rfl ?_
    refine lv_lstore (lv' := [(6, .long (jlshl (1 : Int64) a3)), (5, .int j1), (0, .ref oM), (1, .long a1), (3, .int a3)]) hx hb dX8_pieceOf_21 hl (by decide) rfl (fun ls hl => ?_)
    refine lv_aload_n hx hb dX8_pieceOf_23 rfl (lv_at hl 2 rfl) ?_
    refine lv_lload hx hb dX8_pieceOf_24 (lv_at hl 0 rfl) ?_
    refine lv_iload hx hb dX8_pieceOf_26 (lv_at hl 1 rfl) ?_
    obtain ⟨r5, h6, hm⟩ := jb_out hm
    refine kX8_grown ⟨hx, hb, hml, hown, hts⟩ qw_94 hP hK h6 hl.1 ⟨Nat.le_trans (by decide) hR.1, Nat.le_trans (by decide) hR.2.1, hR.2.2⟩ (Nat.le_of_ble_eq_true rfl) dX8_pieceOf_28 ?_
    refine lv_lload_n hx hb dX8_pieceOf_31 rfl (lv_at hl 3 rfl) ?_
    refine lv_land hx hb dX8_pieceOf_32 ?_
    refine lv_lstore (lv' := [(8, .long (r5 &&& a1)), (6, .long (jlshl (1 : Int64) a3)), (5, .int j1), (0, .ref oM), (1, .long a1), (3, .int a3)]) hx hb dX8_pieceOf_33 hl (by decide) rfl (fun ls hl => ?_)
    obtain ⟨y11, h12, hm⟩ := jb_out hm
    refine wX8_pieceOf_L35 hx hb hml hown hts hK hP hR n _ _ _  h12 ls (lv_sub hl [3, 4, 2, 1, 0] rfl) (fun ls hl => ?_)
    refine lv_lload hx hb dX8_pieceOf_62 (lv_at hl 0 rfl) ?_
    have hm := Option.some.inj hm
    subst hm
    exact K 64 ls dX8_pieceOf_64
  refine lv_icmp_ne (tgt := 13) hx hb dX8_pieceOf_4 (by decide) (fun c4 => ?_) (fun c4 => ?_)
  · rw [if_neg c4] at hi2
    refine lv_sipush (v := (186 : Int32)) hx hb dX8_pieceOf_13 (by decide) ?_
    rw [hi2] at key3
    exact key3 ls (lv_sub hl [0, 1, 2] rfl)
  · rw [if_pos c4] at hi2
    refine lv_sipush (v := (511 : Int32)) hx hb dX8_pieceOf_7 (by decide) ?_
    refine lv_goto (tgt := 16) hx hb dX8_pieceOf_10 (by decide) ?_
    rw [hi2] at key3
    exact key3 ls (lv_sub hl [0, 1, 2] rfl)
set_option maxHeartbeats 4000000 in
set_option maxRecDepth 100000 in
theorem tX8_pieceOf (l : Launch) {D : va_G} {n : Nat} {a1 : Int64} {a3 : Int32} {a4 : Int32} {r : Int64} (hm : mX8_pieceOf n mw mt a1 a3 a4 = some r) : Met l yX8_pieceOf (.code yX8_pieceOf cX8_pieceOf 10 (some .long) :: tw) ({ frames := 3, cells := 0, slots := 0, locals := 77 } : Room) (rdP D [.ref oM, .long a1, .int a3, .int a4] (wdM cJ cI oM oM1 oM2 oM3 oM4 oM5 oM6 oM7 oM8 oM9 oM10 oM11 mw mt mrim mjn mhm mpn mbm mgm mpi mst mam mac mro mbe mhi mmi mgr mtr mle) [(cI, .int), (cJ, .long)]) (vp_Sl (fun q => q = r)) 0 0 (fun _ => False) := by
  refine Met.ofW (cc := cX8_pieceOf) (maxL := 10) (ret := (some .long)) (by decide) rfl ?_
  intro p e s m args below meth c s₁ B hml hv
  obtain ⟨rfl, hP, hK⟩ := hv
  have hx := B.exec
  have hb := B.bytes
  have hr := B.returns
  have hts : ∀ w ∈ tw, w.before _ s = true := fun w h => atoms_spec (ws := .code yX8_pieceOf cX8_pieceOf 10 (some .long) :: tw) B.pre w (List.mem_cons_of_mem _ h)
  have hown : s.vm.findClass RX8 = some m.cls := findClass_of_methodNamed B.named
  have hlocks := B.notSynchronized
  have hl := lv_entry ([.ref oM, .long a1, .int a3, .int a4]) (n := 10) (Nat.le_of_ble_eq_true rfl)
  rw [lg_entry_eq]
  generalize (lg_sl ([.ref oM, .long a1, .int a3, .int a4]) ++ List.replicate (10 - (lg_sl ([.ref oM, .long a1, .int a3, .int a4])).length) Slot.unset).toArray = ls at hl ⊢
  refine bX8_pieceOf hx hb hml hown hts hK hP ⟨Nat.le_of_ble_eq_true rfl, Nat.le_of_ble_eq_true rfl, Nat.zero_le _, Nat.zero_le _⟩ hm ls hl (fun pc ls hd => ?_)
  exact W.lret hx hb hr (fun t ht hW => ⟨r, rfl, rfl, ht⟩) (fun q h => by cases h) hd
set_option maxHeartbeats 4000000 in
set_option maxRecDepth 100000 in
theorem kX8_pieceOf {own : String} {cc : ByteArray} {nL idx pc : Nat} {ls : Array Slot} {rest : List Value} {n : Nat} {a1 : Int64} {a3 : Int32} {a4 : Int32} {r : Int64} (fx : CallFix p m c cc nL s args tw own) (hq : Cond.methodLink own idx yX8_pieceOf ∈ tw) (hP : va_P D vwCl (wdM cJ cI oM oM1 oM2 oM3 oM4 oM5 oM6 oM7 oM8 oM9 oM10 oM11 mw mt mrim mjn mhm mpn mbm mgm mpi mst mam mac mro mbe mhi mmi mgr mtr mle) H) (hK : va_K D vwCl [(cI, .int), (cJ, .long)] s) (hm : mX8_pieceOf n mw mt a1 a3 a4 = some r) (hsz : ls.size = nL) (hR : 4 ≤ R.frames ∧ 106 ≤ R.locals ∧ cells ≤ R.cells ∧ slots ≤ R.slots) (hst : (rest.map fun v => v.category).sum ≤ 8) (hd : decode cc pc = .ok (.invokevirtual idx, 3)) (kk : W p l e R s m args below meth c H locs cells slots Q (F0 m (pc + 3) ls (.long r :: rest))) : W p l e R s m args below meth c H locs cells slots Q (F0 m pc ls (.int a4 :: .int a3 :: .long a1 :: .ref oM :: rest)) := by
  exact vp_callSl (va_Run.run (va_runV (As := [.long a1, .int a3, .int a4]) (rest := rest) fx (tX8_pieceOf l hm) (cwV 3 fx.2.2.2.2 (tw_V hq qw_131 qw_132 qw_53 qw_133) rfl rfl rfl (by decide +kernel) ⟨hR.1, hR.2.1⟩) ⟨rdP_bl, va_recv hK hP (ci := 8) (q0 := 0) rfl rfl, rdP_ok hP hK⟩ rfl rfl hsz rfl (lv_room hst) hd ⟨hR.2.2.1, hR.2.2.2⟩)) (fun r9 hr9 => by first | (rw [hr9]; exact kk) | (rw [hr9.1]; exact kk))
-- X8_firstOf
def mX8_firstOf_L2 (n : Nat) (v0 : Int64) : Nat → (Int32) → Option ((Int32))
  | 0, _ => none
  | k + 1, v2 => (if (mX8_has v0 v2) = 0 then mX8_firstOf_L2 n v0 k (v2 + (1 : Int32)) else some (v2))
def mX8_firstOf (n : Nat) (a0 : Int64) : Option Int32 :=
  jb (mX8_firstOf_L2 n a0 n (0 : Int32)) (fun (y4 : Int32) => (some y4))
theorem dX8_firstOf_0 : decode cX8_firstOf 0 = .ok (.iconst 0, 1) := by decide +kernel
theorem dX8_firstOf_1 : decode cX8_firstOf 1 = .ok (.istore_n 2, 1) := by decide +kernel
theorem dX8_firstOf_2 : decode cX8_firstOf 2 = .ok (.lload_n 0, 1) := by decide +kernel
theorem dX8_firstOf_3 : decode cX8_firstOf 3 = .ok (.iload_n 2, 1) := by decide +kernel
theorem dX8_firstOf_4 : decode cX8_firstOf 4 = .ok (.invokestatic 78, 3) := by decide +kernel
theorem dX8_firstOf_7 : decode cX8_firstOf 7 = .ok (.ifCond .ne 9, 3) := by decide +kernel
theorem dX8_firstOf_10 : decode cX8_firstOf 10 = .ok (.iinc 2 1, 3) := by decide +kernel
theorem dX8_firstOf_13 : decode cX8_firstOf 13 = .ok (.goto (-11), 3) := by decide +kernel
theorem dX8_firstOf_16 : decode cX8_firstOf 16 = .ok (.iload_n 2, 1) := by decide +kernel
theorem dX8_firstOf_17 : decode cX8_firstOf 17 = .ok (.ireturn, 1) := by decide +kernel
set_option maxHeartbeats 4000000 in
set_option maxRecDepth 100000 in
theorem wX8_firstOf_L2 {n : Nat} {v0 : Int64} (hx : p.tables.exec = Jvm.exec) (hb : c.code = cX8_firstOf) (hml : c.maxLocals = 3) (hown : s.vm.findClass RX8 = some m.cls) (hts : ∀ w ∈ tw, w.before args s = true) (hR : 1 ≤ R.frames ∧ 22 ≤ R.locals ∧ cells ≤ R.cells ∧ slots ≤ R.slots) : ∀ (k : Nat) (v2 : Int32) (x2 : Int32), mX8_firstOf_L2 n v0 k v2 = some (x2) → ∀ ls : Array Slot, lv_has ls 3 [(0, .long v0), (2, .int v2)] → (∀ ls : Array Slot, lv_has ls 3 [(2, .int x2)] → W p l e R s m args below meth c H locs cells slots Q (F0 m 16 ls [])) → W p l e R s m args below meth c H locs cells slots Q (F0 m 2 ls []) := by
  intro k
  induction k with
  | zero => intro v2 x2 hm; rw [mX8_firstOf_L2] at hm; cases hm
  | succ k ih =>
    intro v2 x2 hm ls hl K0
    rw [mX8_firstOf_L2] at hm
    refine lv_lload_n hx hb dX8_firstOf_2 rfl (lv_at hl 0 rfl) ?_
    refine lv_iload_n hx hb dX8_firstOf_3 rfl (lv_at hl 1 rfl) ?_
    refine kX8_has ⟨hx, hb, hml, hown, hts⟩ qw_81 hl.1 ⟨Nat.le_trans (by decide) hR.1, Nat.le_trans (by decide) hR.2.1, hR.2.2⟩ (Nat.le_of_ble_eq_true rfl) dX8_firstOf_4 ?_
    refine lv_if_ne (tgt := 16) hx hb dX8_firstOf_7 (by decide) (fun c3 => ?_) (fun c3 => ?_)
    · rw [if_neg c3] at hm
      have hm := Option.some.inj hm
      have e9 : x2 = v2 := (congrArg (fun q => q) hm).symm
      rw [e9] at K0
      exact K0 ls (lv_sub hl [1] rfl)
    · rw [if_pos c3] at hm
      refine lv_iinc (v := (v2 + (1 : Int32))) (lv' := [(2, .int (v2 + (1 : Int32))), (0, .long v0)]) hx hb dX8_firstOf_10 hl (k := 1) rfl (by rfl) (by decide) rfl (fun ls hl => ?_)
      refine lv_goto (tgt := 2) hx hb dX8_firstOf_13 (by decide) ?_
      exact ih _ _ hm ls (lv_sub hl [1, 0] rfl) K0
set_option maxHeartbeats 4000000 in
set_option maxRecDepth 100000 in
theorem bX8_firstOf {n : Nat} {a0 : Int64} {r : Int32} (hx : p.tables.exec = Jvm.exec) (hb : c.code = cX8_firstOf) (hml : c.maxLocals = 3) (hown : s.vm.findClass RX8 = some m.cls) (hts : ∀ w ∈ tw, w.before args s = true) (hR : 1 ≤ R.frames ∧ 22 ≤ R.locals ∧ cells ≤ R.cells ∧ slots ≤ R.slots) (hm : mX8_firstOf n a0 = some r) (ls : Array Slot) (hl : lv_has ls 3 [(0, .long a0)]) (K : ∀ (pc : Nat) (ls : Array Slot), decode cX8_firstOf pc = .ok (.ireturn, 1) → W p l e R s m args below meth c H locs cells slots Q (F0 m pc ls [.int r])) : W p l e R s m args below meth c H locs cells slots Q (F0 m 0 ls []) := by
  unfold mX8_firstOf at hm
  refine lv_iconst (v := (0 : Int32)) hx hb dX8_firstOf_0 (by decide) ?_
  refine lv_istore_n (lv' := [(2, .int (0 : Int32)), (0, .long a0)]) hx hb dX8_firstOf_1 rfl hl (by decide) rfl (fun ls hl => ?_)
  obtain ⟨y4, h5, hm⟩ := jb_out hm
  refine wX8_firstOf_L2 hx hb hml hown hts hR n _ _  h5 ls (lv_sub hl [1, 0] rfl) (fun ls hl => ?_)
  refine lv_iload_n hx hb dX8_firstOf_16 rfl (lv_at hl 0 rfl) ?_
  have hm := Option.some.inj hm
  subst hm
  exact K 17 ls dX8_firstOf_17
set_option maxHeartbeats 4000000 in
set_option maxRecDepth 100000 in
theorem tX8_firstOf (l : Launch) {n : Nat} {a0 : Int64} {r : Int32} (hm : mX8_firstOf n a0 = some r) : Met l yX8_firstOf (.code yX8_firstOf cX8_firstOf 3 (some .int) :: tw) ({ frames := 1, cells := 0, slots := 0, locals := 22 } : Room) (va_Pc [.long a0] (fun _ => True)) (vp_Si (fun q => q = r)) 0 0 (fun _ => False) := by
  refine Met.ofW (cc := cX8_firstOf) (maxL := 3) (ret := (some .int)) (by decide) rfl ?_
  intro p e s m args below meth c s₁ B hml hv
  obtain ⟨rfl, -⟩ := hv
  have hx := B.exec
  have hb := B.bytes
  have hr := B.returns
  have hts : ∀ w ∈ tw, w.before _ s = true := fun w h => atoms_spec (ws := .code yX8_firstOf cX8_firstOf 3 (some .int) :: tw) B.pre w (List.mem_cons_of_mem _ h)
  have hown : s.vm.findClass RX8 = some m.cls := findClass_of_methodNamed B.named
  have hlocks := B.notSynchronized
  have hl := lv_entry ([.long a0]) (n := 3) (Nat.le_of_ble_eq_true rfl)
  rw [lg_entry_eq]
  generalize (lg_sl ([.long a0]) ++ List.replicate (3 - (lg_sl ([.long a0])).length) Slot.unset).toArray = ls at hl ⊢
  refine bX8_firstOf hx hb hml hown hts ⟨Nat.le_of_ble_eq_true rfl, Nat.le_of_ble_eq_true rfl, Nat.zero_le _, Nat.zero_le _⟩ hm ls hl (fun pc ls hd => ?_)
  exact W.iret hx hb hr (fun t ht hW => ⟨r, rfl, rfl, ht⟩) (fun q h => by cases h) hd
set_option maxHeartbeats 4000000 in
set_option maxRecDepth 100000 in
theorem kX8_firstOf {own : String} {cc : ByteArray} {nL idx pc : Nat} {ls : Array Slot} {rest : List Value} {n : Nat} {a0 : Int64} {r : Int32} (fx : CallFix p m c cc nL s args tw own) (hq : Cond.methodLink own idx yX8_firstOf ∈ tw) (hm : mX8_firstOf n a0 = some r) (hsz : ls.size = nL) (hR : 2 ≤ R.frames ∧ 44 ≤ R.locals ∧ cells ≤ R.cells ∧ slots ≤ R.slots) (hst : (rest.map fun v => v.category).sum ≤ 8) (hd : decode cc pc = .ok (.invokestatic idx, 3)) (kk : W p l e R s m args below meth c H locs cells slots Q (F0 m (pc + 3) ls (.int r :: rest))) : W p l e R s m args below meth c H locs cells slots Q (F0 m pc ls (.long a0 :: rest)) := by
  exact vp_callSi (va_Run.run (va_runS (As := [.long a0]) (rest := rest) fx (tX8_firstOf l hm) (va_cwS 1 fx.2.2.2.2 (tw_S2 hq qw_134 qw_53 qw_135) rfl rfl rfl (by decide +kernel) ⟨hR.1, hR.2.1⟩) ⟨fun a U g mk q => q, fun U hU hW => ⟨rfl, trivial⟩⟩ rfl rfl hsz rfl (lv_room hst) hd ⟨hR.2.2.1, hR.2.2.2⟩)) (fun r9 hr9 => by first | (rw [hr9]; exact kk) | (rw [hr9.1]; exact kk))
-- X8_edgeCells
def mX8_edgeCells_L4 (n : Nat) (mw : Int32) (mt : Int32) : Nat → (Int64) → (Int32) → Option ((Int64))
  | 0, _, _ => none
  | k + 1, v1, v3 => (if (mX8_cells mw mt) ≤ v3 then some (v1) else gd (¬ mw = 0) (jb (if (jrem v3 mw) = 0 then (some ((1 : Int32))) else gd (¬ mw = 0) ((if (jrem v3 mw) = (mw - (1 : Int32)) then (some ((1 : Int32))) else gd (¬ mw = 0) ((if (v3 / mw) = 0 then (some ((1 : Int32))) else gd (¬ mw = 0) ((if (v3 / mw) = (mt - (1 : Int32)) then (some ((1 : Int32))) else (some ((0 : Int32)))))))))) (fun (j5 : Int32) => jl (if j5 = 0 then (0 : Int64) else (jlshl (1 : Int64) v3)) (fun j15 => mX8_edgeCells_L4 n mw mt k (v1 ||| j15) (v3 + (1 : Int32))))))
def mX8_edgeCells (n : Nat) (mw : Int32) (mt : Int32) : Option Int64 :=
  jb (mX8_edgeCells_L4 n mw mt n (0 : Int64) (0 : Int32)) (fun (y19 : Int64) => (some y19))
theorem dX8_edgeCells_0 : decode cX8_edgeCells 0 = .ok (.lconst 0, 1) := by decide +kernel
theorem dX8_edgeCells_1 : decode cX8_edgeCells 1 = .ok (.lstore_n 1, 1) := by decide +kernel
theorem dX8_edgeCells_2 : decode cX8_edgeCells 2 = .ok (.iconst 0, 1) := by decide +kernel
theorem dX8_edgeCells_3 : decode cX8_edgeCells 3 = .ok (.istore_n 3, 1) := by decide +kernel
theorem dX8_edgeCells_4 : decode cX8_edgeCells 4 = .ok (.iload_n 3, 1) := by decide +kernel
theorem dX8_edgeCells_5 : decode cX8_edgeCells 5 = .ok (.aload_n 0, 1) := by decide +kernel
theorem dX8_edgeCells_6 : decode cX8_edgeCells 6 = .ok (.invokevirtual 57, 3) := by decide +kernel
theorem dX8_edgeCells_9 : decode cX8_edgeCells 9 = .ok (.if_icmp .ge 79, 3) := by decide +kernel
theorem dX8_edgeCells_12 : decode cX8_edgeCells 12 = .ok (.iload_n 3, 1) := by decide +kernel
theorem dX8_edgeCells_13 : decode cX8_edgeCells 13 = .ok (.aload_n 0, 1) := by decide +kernel
theorem dX8_edgeCells_14 : decode cX8_edgeCells 14 = .ok (.getfield 7, 3) := by decide +kernel
theorem dX8_edgeCells_17 : decode cX8_edgeCells 17 = .ok (.irem, 1) := by decide +kernel
theorem dX8_edgeCells_18 : decode cX8_edgeCells 18 = .ok (.ifCond .eq 42, 3) := by decide +kernel
theorem dX8_edgeCells_21 : decode cX8_edgeCells 21 = .ok (.iload_n 3, 1) := by decide +kernel
theorem dX8_edgeCells_22 : decode cX8_edgeCells 22 = .ok (.aload_n 0, 1) := by decide +kernel
theorem dX8_edgeCells_23 : decode cX8_edgeCells 23 = .ok (.getfield 7, 3) := by decide +kernel
theorem dX8_edgeCells_26 : decode cX8_edgeCells 26 = .ok (.irem, 1) := by decide +kernel
theorem dX8_edgeCells_27 : decode cX8_edgeCells 27 = .ok (.aload_n 0, 1) := by decide +kernel
theorem dX8_edgeCells_28 : decode cX8_edgeCells 28 = .ok (.getfield 7, 3) := by decide +kernel
theorem dX8_edgeCells_31 : decode cX8_edgeCells 31 = .ok (.iconst 1, 1) := by decide +kernel
theorem dX8_edgeCells_32 : decode cX8_edgeCells 32 = .ok (.isub, 1) := by decide +kernel
theorem dX8_edgeCells_33 : decode cX8_edgeCells 33 = .ok (.if_icmp .eq 27, 3) := by decide +kernel
theorem dX8_edgeCells_36 : decode cX8_edgeCells 36 = .ok (.iload_n 3, 1) := by decide +kernel
theorem dX8_edgeCells_37 : decode cX8_edgeCells 37 = .ok (.aload_n 0, 1) := by decide +kernel
theorem dX8_edgeCells_38 : decode cX8_edgeCells 38 = .ok (.getfield 7, 3) := by decide +kernel
theorem dX8_edgeCells_41 : decode cX8_edgeCells 41 = .ok (.idiv, 1) := by decide +kernel
theorem dX8_edgeCells_42 : decode cX8_edgeCells 42 = .ok (.ifCond .eq 18, 3) := by decide +kernel
theorem dX8_edgeCells_45 : decode cX8_edgeCells 45 = .ok (.iload_n 3, 1) := by decide +kernel
theorem dX8_edgeCells_46 : decode cX8_edgeCells 46 = .ok (.aload_n 0, 1) := by decide +kernel
theorem dX8_edgeCells_47 : decode cX8_edgeCells 47 = .ok (.getfield 7, 3) := by decide +kernel
theorem dX8_edgeCells_50 : decode cX8_edgeCells 50 = .ok (.idiv, 1) := by decide +kernel
theorem dX8_edgeCells_51 : decode cX8_edgeCells 51 = .ok (.aload_n 0, 1) := by decide +kernel
theorem dX8_edgeCells_52 : decode cX8_edgeCells 52 = .ok (.getfield 13, 3) := by decide +kernel
theorem dX8_edgeCells_55 : decode cX8_edgeCells 55 = .ok (.iconst 1, 1) := by decide +kernel
theorem dX8_edgeCells_56 : decode cX8_edgeCells 56 = .ok (.isub, 1) := by decide +kernel
theorem dX8_edgeCells_57 : decode cX8_edgeCells 57 = .ok (.if_icmp .ne 7, 3) := by decide +kernel
theorem dX8_edgeCells_60 : decode cX8_edgeCells 60 = .ok (.iconst 1, 1) := by decide +kernel
theorem dX8_edgeCells_61 : decode cX8_edgeCells 61 = .ok (.goto 4, 3) := by decide +kernel
theorem dX8_edgeCells_64 : decode cX8_edgeCells 64 = .ok (.iconst 0, 1) := by decide +kernel
theorem dX8_edgeCells_65 : decode cX8_edgeCells 65 = .ok (.istore 4, 2) := by decide +kernel
theorem dX8_edgeCells_67 : decode cX8_edgeCells 67 = .ok (.lload_n 1, 1) := by decide +kernel
theorem dX8_edgeCells_68 : decode cX8_edgeCells 68 = .ok (.iload 4, 2) := by decide +kernel
theorem dX8_edgeCells_70 : decode cX8_edgeCells 70 = .ok (.ifCond .eq 9, 3) := by decide +kernel
theorem dX8_edgeCells_73 : decode cX8_edgeCells 73 = .ok (.lconst 1, 1) := by decide +kernel
theorem dX8_edgeCells_74 : decode cX8_edgeCells 74 = .ok (.iload_n 3, 1) := by decide +kernel
theorem dX8_edgeCells_75 : decode cX8_edgeCells 75 = .ok (.lshl, 1) := by decide +kernel
theorem dX8_edgeCells_76 : decode cX8_edgeCells 76 = .ok (.goto 4, 3) := by decide +kernel
theorem dX8_edgeCells_79 : decode cX8_edgeCells 79 = .ok (.lconst 0, 1) := by decide +kernel
theorem dX8_edgeCells_80 : decode cX8_edgeCells 80 = .ok (.lor, 1) := by decide +kernel
theorem dX8_edgeCells_81 : decode cX8_edgeCells 81 = .ok (.lstore_n 1, 1) := by decide +kernel
theorem dX8_edgeCells_82 : decode cX8_edgeCells 82 = .ok (.iinc 3 1, 3) := by decide +kernel
theorem dX8_edgeCells_85 : decode cX8_edgeCells 85 = .ok (.goto (-81), 3) := by decide +kernel
theorem dX8_edgeCells_88 : decode cX8_edgeCells 88 = .ok (.lload_n 1, 1) := by decide +kernel
theorem dX8_edgeCells_89 : decode cX8_edgeCells 89 = .ok (.lreturn, 1) := by decide +kernel
set_option maxHeartbeats 4000000 in
set_option maxRecDepth 100000 in
theorem wX8_edgeCells_L4 {n : Nat} (hx : p.tables.exec = Jvm.exec) (hb : c.code = cX8_edgeCells) (hml : c.maxLocals = 5) (hown : s.vm.findClass RX8 = some m.cls) (hts : ∀ w ∈ tw, w.before args s = true) (hK : va_K D vwCl [(cI, .int), (cJ, .long)] s) (hP : va_P D vwCl (wdM cJ cI oM oM1 oM2 oM3 oM4 oM5 oM6 oM7 oM8 oM9 oM10 oM11 mw mt mrim mjn mhm mpn mbm mgm mpi mst mam mac mro mbe mhi mmi mgr mtr mle) H) (hR : 1 ≤ R.frames ∧ 20 ≤ R.locals ∧ cells ≤ R.cells ∧ slots ≤ R.slots) : ∀ (k : Nat) (v1 : Int64) (v3 : Int32) (x1 : Int64), mX8_edgeCells_L4 n mw mt k v1 v3 = some (x1) → ∀ ls : Array Slot, lv_has ls 5 [(0, .ref oM), (1, .long v1), (3, .int v3)] → (∀ ls : Array Slot, lv_has ls 5 [(1, .long x1)] → W p l e R s m args below meth c H locs cells slots Q (F0 m 88 ls [])) → W p l e R s m args below meth c H locs cells slots Q (F0 m 4 ls []) := by
  intro k
  induction k with
  | zero => intro v1 v3 x1 hm; rw [mX8_edgeCells_L4] at hm; cases hm
  | succ k ih =>
    intro v1 v3 x1 hm ls hl K0
    rw [mX8_edgeCells_L4] at hm
    refine lv_iload_n hx hb dX8_edgeCells_4 rfl (lv_at hl 2 rfl) ?_
    refine lv_aload_n hx hb dX8_edgeCells_5 rfl (lv_at hl 0 rfl) ?_
    refine kX8_cells ⟨hx, hb, hml, hown, hts⟩ qw_60 hP hK hl.1 ⟨Nat.le_trans (by decide) hR.1, Nat.le_trans (by decide) hR.2.1, hR.2.2⟩ (Nat.le_of_ble_eq_true rfl) dX8_edgeCells_6 ?_
    refine lv_icmp_ge (tgt := 88) hx hb dX8_edgeCells_9 (by decide) (fun c3 => ?_) (fun c3 => ?_)
    · rw [if_pos c3] at hm
      have hm := Option.some.inj hm
      have e9 : x1 = v1 := (congrArg (fun q => q) hm).symm
      rw [e9] at K0
      exact K0 ls (lv_sub hl [1] rfl)
    · rw [if_neg c3] at hm
      refine lv_iload_n hx hb dX8_edgeCells_12 rfl (lv_at hl 2 rfl) ?_
      refine lv_aload_n hx hb dX8_edgeCells_13 rfl (lv_at hl 0 rfl) ?_
      refine va_get (D := D) (ci := 8) (v := .int mw) (C := RX8) (T := TX8) (N := 19) hx hb hts tnX8 hown hK hP 0 rfl rfl 0 (by decide) (hts _ qw_55) (fun _ h9 => h9) rfl dX8_edgeCells_14 ?_
      obtain ⟨g4, hm⟩ := gd_out hm
      refine lv_irem hx hb dX8_edgeCells_17 g4 ?_
      obtain ⟨j5, hi6, hm⟩ := jb_out hm
      have key7 : ∀ (ls : Array Slot), lv_has ls 5 [(0, .ref oM), (1, .long v1), (3, .int v3)] → W p l e R s m args below meth c H locs cells slots Q (F0 m 65 ls [.int j5]) := by
        intro ls hl
        refine lv_istore (lv' := [(4, .int j5), (0, .ref oM), (1, .long v1), (3, .int v3)]) hx hb dX8_edgeCells_65 hl (by decide) rfl (fun ls hl => ?_)
        refine lv_lload_n hx hb dX8_edgeCells_67 rfl (lv_at hl 2 rfl) ?_
        refine lv_iload hx hb dX8_edgeCells_68 (lv_at hl 0 rfl) ?_
        obtain ⟨j15, hi16, hm⟩ := jl_out hm
        have key17 : ∀ (ls : Array Slot), lv_has ls 5 [(0, .ref oM), (3, .int v3)] → W p l e R s m args below meth c H locs cells slots Q (F0 m 80 ls [.long j15, .long v1]) := by
          intro ls hl
          refine lv_lor hx hb dX8_edgeCells_80 ?_
          refine lv_lstore_n (lv' := [(1, .long (v1 ||| j15)), (0, .ref oM), (3, .int v3)]) hx hb dX8_edgeCells_81 rfl hl (by decide) rfl (fun ls hl => ?_)
          refine lv_iinc (v := (v3 + (1 : Int32))) (lv' := [(3, .int (v3 + (1 : Int32))), (1, .long (v1 ||| j15)), (0, .ref oM)]) hx hb dX8_edgeCells_82 hl (k := 2) rfl (by rfl) (by decide) rfl (fun ls hl => ?_)
          refine lv_goto (tgt := 4) hx hb dX8_edgeCells_85 (by decide) ?_
          exact ih _ _ _ hm ls (lv_sub hl [2, 1, 0] rfl) K0
        refine lv_if_eq (tgt := 79) hx hb dX8_edgeCells_70 (by decide) (fun c18 => ?_) (fun c18 => ?_)
        · rw [if_pos c18] at hi16
          refine lv_lconst (v := (0 : Int64)) hx hb dX8_edgeCells_79 (by decide) ?_
          rw [hi16] at key17
          exact key17 ls (lv_sub hl [1, 3] rfl)
        · rw [if_neg c18] at hi16
          refine lv_lconst (v := (1 : Int64)) hx hb dX8_edgeCells_73 (by decide) ?_
          refine lv_iload_n hx hb dX8_edgeCells_74 rfl (lv_at hl 3 rfl) ?_
          refine lv_lshl (v := (jlshl (1 : Int64) v3)) hx hb dX8_edgeCells_75 rfl ?_
          refine lv_goto (tgt := 80) hx hb dX8_edgeCells_76 (by decide) ?_
          rw [hi16] at key17
          exact key17 ls (lv_sub hl [1, 3] rfl)
      refine lv_if_eq (tgt := 60) hx hb dX8_edgeCells_18 (by decide) (fun c8 => ?_) (fun c8 => ?_)
      · rw [if_pos c8] at hi6
        refine lv_iconst (v := (1 : Int32)) hx hb dX8_edgeCells_60 (by decide) ?_
        refine lv_goto (tgt := 65) hx hb dX8_edgeCells_61 (by decide) ?_
        have hi6 := Option.some.inj hi6
        have e9 : j5 = (1 : Int32) := (congrArg (fun q => q) hi6).symm
        rw [e9] at key7
        exact key7 ls (lv_sub hl [0, 1, 2] rfl)
      · rw [if_neg c8] at hi6
        refine lv_iload_n hx hb dX8_edgeCells_21 rfl (lv_at hl 2 rfl) ?_
        refine lv_aload_n hx hb dX8_edgeCells_22 rfl (lv_at hl 0 rfl) ?_
        refine va_get (D := D) (ci := 8) (v := .int mw) (C := RX8) (T := TX8) (N := 19) hx hb hts tnX8 hown hK hP 0 rfl rfl 0 (by decide) (hts _ qw_55) (fun _ h9 => h9) rfl dX8_edgeCells_23 ?_
        obtain ⟨g9, hi6⟩ := gd_out hi6
        refine lv_irem hx hb dX8_edgeCells_26 g9 ?_
        refine lv_aload_n hx hb dX8_edgeCells_27 rfl (lv_at hl 0 rfl) ?_
        refine va_get (D := D) (ci := 8) (v := .int mw) (C := RX8) (T := TX8) (N := 19) hx hb hts tnX8 hown hK hP 0 rfl rfl 0 (by decide) (hts _ qw_55) (fun _ h9 => h9) rfl dX8_edgeCells_28 ?_
        refine lv_iconst (v := (1 : Int32)) hx hb dX8_edgeCells_31 (by decide) ?_
        refine lv_isub hx hb dX8_edgeCells_32 ?_
        refine lv_icmp_eq (tgt := 60) hx hb dX8_edgeCells_33 (by decide) (fun c10 => ?_) (fun c10 => ?_)
        · rw [if_pos c10] at hi6
          refine lv_iconst (v := (1 : Int32)) hx hb dX8_edgeCells_60 (by decide) ?_
          refine lv_goto (tgt := 65) hx hb dX8_edgeCells_61 (by decide) ?_
          have hi6 := Option.some.inj hi6
          have e9 : j5 = (1 : Int32) := (congrArg (fun q => q) hi6).symm
          rw [e9] at key7
          exact key7 ls (lv_sub hl [0, 1, 2] rfl)
        · rw [if_neg c10] at hi6
          refine lv_iload_n hx hb dX8_edgeCells_36 rfl (lv_at hl 2 rfl) ?_
          refine lv_aload_n hx hb dX8_edgeCells_37 rfl (lv_at hl 0 rfl) ?_
          refine va_get (D := D) (ci := 8) (v := .int mw) (C := RX8) (T := TX8) (N := 19) hx hb hts tnX8 hown hK hP 0 rfl rfl 0 (by decide) (hts _ qw_55) (fun _ h9 => h9) rfl dX8_edgeCells_38 ?_
          obtain ⟨g11, hi6⟩ := gd_out hi6
          refine lv_idiv hx hb dX8_edgeCells_41 g11 ?_
          refine lv_if_eq (tgt := 60) hx hb dX8_edgeCells_42 (by decide) (fun c12 => ?_) (fun c12 => ?_)
          · rw [if_pos c12] at hi6
            refine lv_iconst (v := (1 : Int32)) hx hb dX8_edgeCells_60 (by decide) ?_
            refine lv_goto (tgt := 65) hx hb dX8_edgeCells_61 (by decide) ?_
            have hi6 := Option.some.inj hi6
            have e9 : j5 = (1 : Int32) := (congrArg (fun q => q) hi6).symm
            rw [e9] at key7
            exact key7 ls (lv_sub hl [0, 1, 2] rfl)
          · rw [if_neg c12] at hi6
            refine lv_iload_n hx hb dX8_edgeCells_45 rfl (lv_at hl 2 rfl) ?_
            refine lv_aload_n hx hb dX8_edgeCells_46 rfl (lv_at hl 0 rfl) ?_
            refine va_get (D := D) (ci := 8) (v := .int mw) (C := RX8) (T := TX8) (N := 19) hx hb hts tnX8 hown hK hP 0 rfl rfl 0 (by decide) (hts _ qw_55) (fun _ h9 => h9) rfl dX8_edgeCells_47 ?_
            obtain ⟨g13, hi6⟩ := gd_out hi6
            refine lv_idiv hx hb dX8_edgeCells_50 g13 ?_
            refine lv_aload_n hx hb dX8_edgeCells_51 rfl (lv_at hl 0 rfl) ?_
            refine va_get (D := D) (ci := 8) (v := .int mt) (C := RX8) (T := TX8) (N := 19) hx hb hts tnX8 hown hK hP 0 rfl rfl 1 (by decide) (hts _ qw_56) (fun _ h9 => h9) rfl dX8_edgeCells_52 ?_
            refine lv_iconst (v := (1 : Int32)) hx hb dX8_edgeCells_55 (by decide) ?_
            refine lv_isub hx hb dX8_edgeCells_56 ?_
            refine lv_icmp_ne (tgt := 64) hx hb dX8_edgeCells_57 (by decide) (fun c14 => ?_) (fun c14 => ?_)
            · rw [if_neg c14] at hi6
              refine lv_iconst (v := (0 : Int32)) hx hb dX8_edgeCells_64 (by decide) ?_
              have hi6 := Option.some.inj hi6
              have e9 : j5 = (0 : Int32) := (congrArg (fun q => q) hi6).symm
              rw [e9] at key7
              exact key7 ls (lv_sub hl [0, 1, 2] rfl)
            · rw [if_pos c14] at hi6
              refine lv_iconst (v := (1 : Int32)) hx hb dX8_edgeCells_60 (by decide) ?_
              refine lv_goto (tgt := 65) hx hb dX8_edgeCells_61 (by decide) ?_
              have hi6 := Option.some.inj hi6
              have e9 : j5 = (1 : Int32) := (congrArg (fun q => q) hi6).symm
              rw [e9] at key7
              exact key7 ls (lv_sub hl [0, 1, 2] rfl)
set_option maxHeartbeats 4000000 in
set_option maxRecDepth 100000 in
theorem bX8_edgeCells {n : Nat} {r : Int64} (hx : p.tables.exec = Jvm.exec) (hb : c.code = cX8_edgeCells) (hml : c.maxLocals = 5) (hown : s.vm.findClass RX8 = some m.cls) (hts : ∀ w ∈ tw, w.before args s = true) (hK : va_K D vwCl [(cI, .int), (cJ, .long)] s) (hP : va_P D vwCl (wdM cJ cI oM oM1 oM2 oM3 oM4 oM5 oM6 oM7 oM8 oM9 oM10 oM11 mw mt mrim mjn mhm mpn mbm mgm mpi mst mam mac mro mbe mhi mmi mgr mtr mle) H) (hR : 1 ≤ R.frames ∧ 20 ≤ R.locals ∧ cells ≤ R.cells ∧ slots ≤ R.slots) (hm : mX8_edgeCells n mw mt = some r) (ls : Array Slot) (hl : lv_has ls 5 [(0, .ref oM)]) (K : ∀ (pc : Nat) (ls : Array Slot), decode cX8_edgeCells pc = .ok (.lreturn, 1) → W p l e R s m args below meth c H locs cells slots Q (F0 m pc ls [.long r])) : W p l e R s m args below meth c H locs cells slots Q (F0 m 0 ls []) := by
  unfold mX8_edgeCells at hm
  refine lv_lconst (v := (0 : Int64)) hx hb dX8_edgeCells_0 (by decide) ?_
  refine lv_lstore_n (lv' := [(1, .long (0 : Int64)), (0, .ref oM)]) hx hb dX8_edgeCells_1 rfl hl (by decide) rfl (fun ls hl => ?_)
  refine lv_iconst (v := (0 : Int32)) hx hb dX8_edgeCells_2 (by decide) ?_
  refine lv_istore_n (lv' := [(3, .int (0 : Int32)), (1, .long (0 : Int64)), (0, .ref oM)]) hx hb dX8_edgeCells_3 rfl hl (by decide) rfl (fun ls hl => ?_)
  obtain ⟨y19, h20, hm⟩ := jb_out hm
  refine wX8_edgeCells_L4 hx hb hml hown hts hK hP hR n _ _ _  h20 ls (lv_sub hl [2, 1, 0] rfl) (fun ls hl => ?_)
  refine lv_lload_n hx hb dX8_edgeCells_88 rfl (lv_at hl 0 rfl) ?_
  have hm := Option.some.inj hm
  subst hm
  exact K 89 ls dX8_edgeCells_89
set_option maxHeartbeats 4000000 in
set_option maxRecDepth 100000 in
theorem tX8_edgeCells (l : Launch) {D : va_G} {n : Nat} {r : Int64} (hm : mX8_edgeCells n mw mt = some r) : Met l yX8_edgeCells (.code yX8_edgeCells cX8_edgeCells 5 (some .long) :: tw) ({ frames := 1, cells := 0, slots := 0, locals := 20 } : Room) (rdP D [.ref oM] (wdM cJ cI oM oM1 oM2 oM3 oM4 oM5 oM6 oM7 oM8 oM9 oM10 oM11 mw mt mrim mjn mhm mpn mbm mgm mpi mst mam mac mro mbe mhi mmi mgr mtr mle) [(cI, .int), (cJ, .long)]) (vp_Sl (fun q => q = r)) 0 0 (fun _ => False) := by
  refine Met.ofW (cc := cX8_edgeCells) (maxL := 5) (ret := (some .long)) (by decide) rfl ?_
  intro p e s m args below meth c s₁ B hml hv
  obtain ⟨rfl, hP, hK⟩ := hv
  have hx := B.exec
  have hb := B.bytes
  have hr := B.returns
  have hts : ∀ w ∈ tw, w.before _ s = true := fun w h => atoms_spec (ws := .code yX8_edgeCells cX8_edgeCells 5 (some .long) :: tw) B.pre w (List.mem_cons_of_mem _ h)
  have hown : s.vm.findClass RX8 = some m.cls := findClass_of_methodNamed B.named
  have hlocks := B.notSynchronized
  have hl := lv_entry ([.ref oM]) (n := 5) (Nat.le_of_ble_eq_true rfl)
  rw [lg_entry_eq]
  generalize (lg_sl ([.ref oM]) ++ List.replicate (5 - (lg_sl ([.ref oM])).length) Slot.unset).toArray = ls at hl ⊢
  refine bX8_edgeCells hx hb hml hown hts hK hP ⟨Nat.le_of_ble_eq_true rfl, Nat.le_of_ble_eq_true rfl, Nat.zero_le _, Nat.zero_le _⟩ hm ls hl (fun pc ls hd => ?_)
  exact W.lret hx hb hr (fun t ht hW => ⟨r, rfl, rfl, ht⟩) (fun q h => by cases h) hd
set_option maxHeartbeats 4000000 in
set_option maxRecDepth 100000 in
theorem kX8_edgeCells {own : String} {cc : ByteArray} {nL idx pc : Nat} {ls : Array Slot} {rest : List Value} {n : Nat} {r : Int64} (fx : CallFix p m c cc nL s args tw own) (hq : Cond.methodLink own idx yX8_edgeCells ∈ tw) (hP : va_P D vwCl (wdM cJ cI oM oM1 oM2 oM3 oM4 oM5 oM6 oM7 oM8 oM9 oM10 oM11 mw mt mrim mjn mhm mpn mbm mgm mpi mst mam mac mro mbe mhi mmi mgr mtr mle) H) (hK : va_K D vwCl [(cI, .int), (cJ, .long)] s) (hm : mX8_edgeCells n mw mt = some r) (hsz : ls.size = nL) (hR : 2 ≤ R.frames ∧ 44 ≤ R.locals ∧ cells ≤ R.cells ∧ slots ≤ R.slots) (hst : (rest.map fun v => v.category).sum ≤ 8) (hd : decode cc pc = .ok (.invokevirtual idx, 3)) (kk : W p l e R s m args below meth c H locs cells slots Q (F0 m (pc + 3) ls (.long r :: rest))) : W p l e R s m args below meth c H locs cells slots Q (F0 m pc ls (.ref oM :: rest)) := by
  exact vp_callSl (va_Run.run (va_runV (As := []) (rest := rest) fx (tX8_edgeCells l hm) (cwV 0 fx.2.2.2.2 (tw_V hq qw_136 qw_137 qw_53 qw_138) rfl rfl rfl (by decide +kernel) ⟨hR.1, hR.2.1⟩) ⟨rdP_bl, va_recv hK hP (ci := 8) (q0 := 0) rfl rfl, rdP_ok hP hK⟩ rfl rfl hsz rfl (lv_room hst) hd ⟨hR.2.2.1, hR.2.2.2⟩)) (fun r9 hr9 => by first | (rw [hr9]; exact kk) | (rw [hr9.1]; exact kk))
-- X8_piecesOf
def mX8_piecesOf_L5 (n : Nat) (mw : Int32) (mt : Int32) (mjn : Int32) : Nat → (Int64) → (Int32) → Option ((Int32))
  | 0, _, _ => none
  | k + 1, v3, v5 => (if v3 = (0 : Int64) then some (v5) else jb (mX8_firstOf n v3) (fun (r3 : Int32) => jb (mX8_pieceOf n mw mt v3 r3 mjn) (fun (r5 : Int64) => mX8_piecesOf_L5 n mw mt mjn k (v3 &&& (r5 ^^^ (-1 : Int64))) (v5 + (1 : Int32)))))
def mX8_piecesOf (n : Nat) (mw : Int32) (mt : Int32) (mjn : Int32) (a1 : Int64) : Option Int32 :=
  jb (mX8_piecesOf_L5 n mw mt mjn n a1 (0 : Int32)) (fun (y7 : Int32) => (some y7))
theorem dX8_piecesOf_0 : decode cX8_piecesOf 0 = .ok (.lload_n 1, 1) := by decide +kernel
theorem dX8_piecesOf_1 : decode cX8_piecesOf 1 = .ok (.lstore_n 3, 1) := by decide +kernel
theorem dX8_piecesOf_2 : decode cX8_piecesOf 2 = .ok (.iconst 0, 1) := by decide +kernel
theorem dX8_piecesOf_3 : decode cX8_piecesOf 3 = .ok (.istore 5, 2) := by decide +kernel
theorem dX8_piecesOf_5 : decode cX8_piecesOf 5 = .ok (.lload_n 3, 1) := by decide +kernel
theorem dX8_piecesOf_6 : decode cX8_piecesOf 6 = .ok (.lconst 0, 1) := by decide +kernel
theorem dX8_piecesOf_7 : decode cX8_piecesOf 7 = .ok (.lcmp, 1) := by decide +kernel
theorem dX8_piecesOf_8 : decode cX8_piecesOf 8 = .ok (.ifCond .eq 29, 3) := by decide +kernel
theorem dX8_piecesOf_11 : decode cX8_piecesOf 11 = .ok (.lload_n 3, 1) := by decide +kernel
theorem dX8_piecesOf_12 : decode cX8_piecesOf 12 = .ok (.aload_n 0, 1) := by decide +kernel
theorem dX8_piecesOf_13 : decode cX8_piecesOf 13 = .ok (.lload_n 3, 1) := by decide +kernel
theorem dX8_piecesOf_14 : decode cX8_piecesOf 14 = .ok (.lload_n 3, 1) := by decide +kernel
theorem dX8_piecesOf_15 : decode cX8_piecesOf 15 = .ok (.invokestatic 139, 3) := by decide +kernel
theorem dX8_piecesOf_18 : decode cX8_piecesOf 18 = .ok (.aload_n 0, 1) := by decide +kernel
theorem dX8_piecesOf_19 : decode cX8_piecesOf 19 = .ok (.getfield 27, 3) := by decide +kernel
theorem dX8_piecesOf_22 : decode cX8_piecesOf 22 = .ok (.invokevirtual 142, 3) := by decide +kernel
theorem dX8_piecesOf_25 : decode cX8_piecesOf 25 = .ok (.ldc2_w 82, 3) := by decide +kernel
theorem dX8_piecesOf_28 : decode cX8_piecesOf 28 = .ok (.lxor, 1) := by decide +kernel
theorem dX8_piecesOf_29 : decode cX8_piecesOf 29 = .ok (.land, 1) := by decide +kernel
theorem dX8_piecesOf_30 : decode cX8_piecesOf 30 = .ok (.lstore_n 3, 1) := by decide +kernel
theorem dX8_piecesOf_31 : decode cX8_piecesOf 31 = .ok (.iinc 5 1, 3) := by decide +kernel
theorem dX8_piecesOf_34 : decode cX8_piecesOf 34 = .ok (.goto (-29), 3) := by decide +kernel
theorem dX8_piecesOf_37 : decode cX8_piecesOf 37 = .ok (.iload 5, 2) := by decide +kernel
theorem dX8_piecesOf_39 : decode cX8_piecesOf 39 = .ok (.ireturn, 1) := by decide +kernel
set_option maxHeartbeats 4000000 in
set_option maxRecDepth 100000 in
theorem wX8_piecesOf_L5 {n : Nat} (hx : p.tables.exec = Jvm.exec) (hb : c.code = cX8_piecesOf) (hml : c.maxLocals = 6) (hown : s.vm.findClass RX8 = some m.cls) (hts : ∀ w ∈ tw, w.before args s = true) (hK : va_K D vwCl [(cI, .int), (cJ, .long)] s) (hP : va_P D vwCl (wdM cJ cI oM oM1 oM2 oM3 oM4 oM5 oM6 oM7 oM8 oM9 oM10 oM11 mw mt mrim mjn mhm mpn mbm mgm mpi mst mam mac mro mbe mhi mmi mgr mtr mle) H) (hR : 4 ≤ R.frames ∧ 106 ≤ R.locals ∧ cells ≤ R.cells ∧ slots ≤ R.slots) : ∀ (k : Nat) (v3 : Int64) (v5 : Int32) (x5 : Int32), mX8_piecesOf_L5 n mw mt mjn k v3 v5 = some (x5) → ∀ ls : Array Slot, lv_has ls 6 [(0, .ref oM), (3, .long v3), (5, .int v5)] → (∀ ls : Array Slot, lv_has ls 6 [(5, .int x5)] → W p l e R s m args below meth c H locs cells slots Q (F0 m 37 ls [])) → W p l e R s m args below meth c H locs cells slots Q (F0 m 5 ls []) := by
  intro k
  induction k with
  | zero => intro v3 v5 x5 hm; rw [mX8_piecesOf_L5] at hm; cases hm
  | succ k ih =>
    intro v3 v5 x5 hm ls hl K0
    rw [mX8_piecesOf_L5] at hm
    refine lv_lload_n hx hb dX8_piecesOf_5 rfl (lv_at hl 1 rfl) ?_
    refine lv_lconst (v := (0 : Int64)) hx hb dX8_piecesOf_6 (by decide) ?_
    refine W.lcmp hx hb dX8_piecesOf_7 ?_
    refine lv_if_eq (tgt := 37) hx hb dX8_piecesOf_8 (by decide) (fun c2 => ?_) (fun c2 => ?_)
    · have c2 := (lg_cmp_eq v3 (0 : Int64)).mp c2
      rw [if_pos c2] at hm
      have hm := Option.some.inj hm
      have e9 : x5 = v5 := (congrArg (fun q => q) hm).symm
      rw [e9] at K0
      exact K0 ls (lv_sub hl [2] rfl)
    · have c2 := fun h9 => c2 ((lg_cmp_eq v3 (0 : Int64)).mpr h9)
      rw [if_neg c2] at hm
      refine lv_lload_n hx hb dX8_piecesOf_11 rfl (lv_at hl 1 rfl) ?_
      refine lv_aload_n hx hb dX8_piecesOf_12 rfl (lv_at hl 0 rfl) ?_
      refine lv_lload_n hx hb dX8_piecesOf_13 rfl (lv_at hl 1 rfl) ?_
      refine lv_lload_n hx hb dX8_piecesOf_14 rfl (lv_at hl 1 rfl) ?_
      obtain ⟨r3, h4, hm⟩ := jb_out hm
      refine kX8_firstOf ⟨hx, hb, hml, hown, hts⟩ qw_139 h4 hl.1 ⟨Nat.le_trans (by decide) hR.1, Nat.le_trans (by decide) hR.2.1, hR.2.2⟩ (Nat.le_of_ble_eq_true rfl) dX8_piecesOf_15 ?_
      refine lv_aload_n hx hb dX8_piecesOf_18 rfl (lv_at hl 0 rfl) ?_
      refine va_get (D := D) (ci := 8) (v := .int mjn) (C := RX8) (T := TX8) (N := 19) hx hb hts tnX8 hown hK hP 0 rfl rfl 5 (by decide) (hts _ qw_140) (fun _ h9 => h9) rfl dX8_piecesOf_19 ?_
      obtain ⟨r5, h6, hm⟩ := jb_out hm
      refine kX8_pieceOf ⟨hx, hb, hml, hown, hts⟩ qw_141 hP hK h6 hl.1 ⟨Nat.le_trans (by decide) hR.1, Nat.le_trans (by decide) hR.2.1, hR.2.2⟩ (Nat.le_of_ble_eq_true rfl) dX8_piecesOf_22 ?_
      refine lv_ldc2 (v := (-1 : Int64)) hx hb hown (hts _ qw_97) dX8_piecesOf_25 ?_
      refine lv_lxor hx hb dX8_piecesOf_28 ?_
      refine lv_land hx hb dX8_piecesOf_29 ?_
      refine lv_lstore_n (lv' := [(3, .long (v3 &&& (r5 ^^^ (-1 : Int64)))), (0, .ref oM), (5, .int v5)]) hx hb dX8_piecesOf_30 rfl hl (by decide) rfl (fun ls hl => ?_)
      refine lv_iinc (v := (v5 + (1 : Int32))) (lv' := [(5, .int (v5 + (1 : Int32))), (3, .long (v3 &&& (r5 ^^^ (-1 : Int64)))), (0, .ref oM)]) hx hb dX8_piecesOf_31 hl (k := 2) rfl (by rfl) (by decide) rfl (fun ls hl => ?_)
      refine lv_goto (tgt := 5) hx hb dX8_piecesOf_34 (by decide) ?_
      exact ih _ _ _ hm ls (lv_sub hl [2, 1, 0] rfl) K0
set_option maxHeartbeats 4000000 in
set_option maxRecDepth 100000 in
theorem bX8_piecesOf {n : Nat} {a1 : Int64} {r : Int32} (hx : p.tables.exec = Jvm.exec) (hb : c.code = cX8_piecesOf) (hml : c.maxLocals = 6) (hown : s.vm.findClass RX8 = some m.cls) (hts : ∀ w ∈ tw, w.before args s = true) (hK : va_K D vwCl [(cI, .int), (cJ, .long)] s) (hP : va_P D vwCl (wdM cJ cI oM oM1 oM2 oM3 oM4 oM5 oM6 oM7 oM8 oM9 oM10 oM11 mw mt mrim mjn mhm mpn mbm mgm mpi mst mam mac mro mbe mhi mmi mgr mtr mle) H) (hR : 4 ≤ R.frames ∧ 106 ≤ R.locals ∧ cells ≤ R.cells ∧ slots ≤ R.slots) (hm : mX8_piecesOf n mw mt mjn a1 = some r) (ls : Array Slot) (hl : lv_has ls 6 [(0, .ref oM), (1, .long a1)]) (K : ∀ (pc : Nat) (ls : Array Slot), decode cX8_piecesOf pc = .ok (.ireturn, 1) → W p l e R s m args below meth c H locs cells slots Q (F0 m pc ls [.int r])) : W p l e R s m args below meth c H locs cells slots Q (F0 m 0 ls []) := by
  unfold mX8_piecesOf at hm
  refine lv_lload_n hx hb dX8_piecesOf_0 rfl (lv_at hl 1 rfl) ?_
  refine lv_lstore_n (lv' := [(3, .long a1), (0, .ref oM), (1, .long a1)]) hx hb dX8_piecesOf_1 rfl hl (by decide) rfl (fun ls hl => ?_)
  refine lv_iconst (v := (0 : Int32)) hx hb dX8_piecesOf_2 (by decide) ?_
  refine lv_istore (lv' := [(5, .int (0 : Int32)), (3, .long a1), (0, .ref oM), (1, .long a1)]) hx hb dX8_piecesOf_3 hl (by decide) rfl (fun ls hl => ?_)
  obtain ⟨y7, h8, hm⟩ := jb_out hm
  refine wX8_piecesOf_L5 hx hb hml hown hts hK hP hR n _ _ _  h8 ls (lv_sub hl [2, 1, 0] rfl) (fun ls hl => ?_)
  refine lv_iload hx hb dX8_piecesOf_37 (lv_at hl 0 rfl) ?_
  have hm := Option.some.inj hm
  subst hm
  exact K 39 ls dX8_piecesOf_39
set_option maxHeartbeats 4000000 in
set_option maxRecDepth 100000 in
theorem tX8_piecesOf (l : Launch) {D : va_G} {n : Nat} {a1 : Int64} {r : Int32} (hm : mX8_piecesOf n mw mt mjn a1 = some r) : Met l yX8_piecesOf (.code yX8_piecesOf cX8_piecesOf 6 (some .int) :: tw) ({ frames := 4, cells := 0, slots := 0, locals := 106 } : Room) (rdP D [.ref oM, .long a1] (wdM cJ cI oM oM1 oM2 oM3 oM4 oM5 oM6 oM7 oM8 oM9 oM10 oM11 mw mt mrim mjn mhm mpn mbm mgm mpi mst mam mac mro mbe mhi mmi mgr mtr mle) [(cI, .int), (cJ, .long)]) (vp_Si (fun q => q = r)) 0 0 (fun _ => False) := by
  refine Met.ofW (cc := cX8_piecesOf) (maxL := 6) (ret := (some .int)) (by decide) rfl ?_
  intro p e s m args below meth c s₁ B hml hv
  obtain ⟨rfl, hP, hK⟩ := hv
  have hx := B.exec
  have hb := B.bytes
  have hr := B.returns
  have hts : ∀ w ∈ tw, w.before _ s = true := fun w h => atoms_spec (ws := .code yX8_piecesOf cX8_piecesOf 6 (some .int) :: tw) B.pre w (List.mem_cons_of_mem _ h)
  have hown : s.vm.findClass RX8 = some m.cls := findClass_of_methodNamed B.named
  have hlocks := B.notSynchronized
  have hl := lv_entry ([.ref oM, .long a1]) (n := 6) (Nat.le_of_ble_eq_true rfl)
  rw [lg_entry_eq]
  generalize (lg_sl ([.ref oM, .long a1]) ++ List.replicate (6 - (lg_sl ([.ref oM, .long a1])).length) Slot.unset).toArray = ls at hl ⊢
  refine bX8_piecesOf hx hb hml hown hts hK hP ⟨Nat.le_of_ble_eq_true rfl, Nat.le_of_ble_eq_true rfl, Nat.zero_le _, Nat.zero_le _⟩ hm ls hl (fun pc ls hd => ?_)
  exact W.iret hx hb hr (fun t ht hW => ⟨r, rfl, rfl, ht⟩) (fun q h => by cases h) hd
set_option maxHeartbeats 4000000 in
set_option maxRecDepth 100000 in
theorem kX8_piecesOf {own : String} {cc : ByteArray} {nL idx pc : Nat} {ls : Array Slot} {rest : List Value} {n : Nat} {a1 : Int64} {r : Int32} (fx : CallFix p m c cc nL s args tw own) (hq : Cond.methodLink own idx yX8_piecesOf ∈ tw) (hP : va_P D vwCl (wdM cJ cI oM oM1 oM2 oM3 oM4 oM5 oM6 oM7 oM8 oM9 oM10 oM11 mw mt mrim mjn mhm mpn mbm mgm mpi mst mam mac mro mbe mhi mmi mgr mtr mle) H) (hK : va_K D vwCl [(cI, .int), (cJ, .long)] s) (hm : mX8_piecesOf n mw mt mjn a1 = some r) (hsz : ls.size = nL) (hR : 5 ≤ R.frames ∧ 131 ≤ R.locals ∧ cells ≤ R.cells ∧ slots ≤ R.slots) (hst : (rest.map fun v => v.category).sum ≤ 8) (hd : decode cc pc = .ok (.invokevirtual idx, 3)) (kk : W p l e R s m args below meth c H locs cells slots Q (F0 m (pc + 3) ls (.int r :: rest))) : W p l e R s m args below meth c H locs cells slots Q (F0 m pc ls (.long a1 :: .ref oM :: rest)) := by
  exact vp_callSi (va_Run.run (va_runV (As := [.long a1]) (rest := rest) fx (tX8_piecesOf l hm) (cwV 1 fx.2.2.2.2 (tw_V hq qw_142 qw_143 qw_53 qw_144) rfl rfl rfl (by decide +kernel) ⟨hR.1, hR.2.1⟩) ⟨rdP_bl, va_recv hK hP (ci := 8) (q0 := 0) rfl rfl, rdP_ok hP hK⟩ rfl rfl hsz rfl (lv_room hst) hd ⟨hR.2.2.1, hR.2.2.2⟩)) (fun r9 hr9 => by first | (rw [hr9]; exact kk) | (rw [hr9.1]; exact kk))
-- X8_edgeOf
def mX8_edgeOf_L17 (n : Nat) (v1 : Int64) (v4 : Int32) (mw : Int32) (mt : Int32) : Nat → (Int32) → (Int32) → Option ((Int32))
  | 0, _, _ => none
  | k + 1, v3, v5 => (if (9 : Int32) ≤ v5 then some (v3) else (if (mX8_has v1 v4) = 0 then some (v3) else jb (mX8_stepFrom mw mt v4 v5) (fun (r8 : Int32) => jl (if r8 = (-9 : Int32) then (1 : Int32) else (if (mX8_has v1 r8) = 0 then (1 : Int32) else (0 : Int32))) (fun j10 => mX8_edgeOf_L17 n v1 v4 mw mt k (v3 + j10) (v5 + (2 : Int32))))))
def mX8_edgeOf_L5 (n : Nat) (mw : Int32) (mt : Int32) (v1 : Int64) : Nat → (Int32) → (Int32) → Option ((Int32))
  | 0, _, _ => none
  | k + 1, v3, v4 => (if (mX8_cells mw mt) ≤ v4 then some (v3) else jb (mX8_edgeOf_L17 n v1 v4 mw mt n v3 (1 : Int32)) (fun (y16 : Int32) => mX8_edgeOf_L5 n mw mt v1 k y16 (v4 + (1 : Int32))))
def mX8_edgeOf (n : Nat) (mw : Int32) (mt : Int32) (a1 : Int64) : Option Int32 :=
  jb (mX8_edgeOf_L5 n mw mt a1 n (0 : Int32) (0 : Int32)) (fun (y18 : Int32) => (some y18))
theorem dX8_edgeOf_0 : decode cX8_edgeOf 0 = .ok (.iconst 0, 1) := by decide +kernel
theorem dX8_edgeOf_1 : decode cX8_edgeOf 1 = .ok (.istore_n 3, 1) := by decide +kernel
theorem dX8_edgeOf_2 : decode cX8_edgeOf 2 = .ok (.iconst 0, 1) := by decide +kernel
theorem dX8_edgeOf_3 : decode cX8_edgeOf 3 = .ok (.istore 4, 2) := by decide +kernel
theorem dX8_edgeOf_5 : decode cX8_edgeOf 5 = .ok (.iload 4, 2) := by decide +kernel
theorem dX8_edgeOf_7 : decode cX8_edgeOf 7 = .ok (.aload_n 0, 1) := by decide +kernel
theorem dX8_edgeOf_8 : decode cX8_edgeOf 8 = .ok (.invokevirtual 57, 3) := by decide +kernel
theorem dX8_edgeOf_11 : decode cX8_edgeOf 11 = .ok (.if_icmp .ge 68, 3) := by decide +kernel
theorem dX8_edgeOf_14 : decode cX8_edgeOf 14 = .ok (.iconst 1, 1) := by decide +kernel
theorem dX8_edgeOf_15 : decode cX8_edgeOf 15 = .ok (.istore 5, 2) := by decide +kernel
theorem dX8_edgeOf_17 : decode cX8_edgeOf 17 = .ok (.iload 5, 2) := by decide +kernel
theorem dX8_edgeOf_19 : decode cX8_edgeOf 19 = .ok (.bipush 9, 2) := by decide +kernel
theorem dX8_edgeOf_21 : decode cX8_edgeOf 21 = .ok (.if_icmp .ge 52, 3) := by decide +kernel
theorem dX8_edgeOf_24 : decode cX8_edgeOf 24 = .ok (.lload_n 1, 1) := by decide +kernel
theorem dX8_edgeOf_25 : decode cX8_edgeOf 25 = .ok (.iload 4, 2) := by decide +kernel
theorem dX8_edgeOf_27 : decode cX8_edgeOf 27 = .ok (.invokestatic 78, 3) := by decide +kernel
theorem dX8_edgeOf_30 : decode cX8_edgeOf 30 = .ok (.ifCond .eq 43, 3) := by decide +kernel
theorem dX8_edgeOf_33 : decode cX8_edgeOf 33 = .ok (.aload_n 0, 1) := by decide +kernel
theorem dX8_edgeOf_34 : decode cX8_edgeOf 34 = .ok (.iload 4, 2) := by decide +kernel
theorem dX8_edgeOf_36 : decode cX8_edgeOf 36 = .ok (.iload 5, 2) := by decide +kernel
theorem dX8_edgeOf_38 : decode cX8_edgeOf 38 = .ok (.invokevirtual 96, 3) := by decide +kernel
theorem dX8_edgeOf_41 : decode cX8_edgeOf 41 = .ok (.istore 6, 2) := by decide +kernel
theorem dX8_edgeOf_43 : decode cX8_edgeOf 43 = .ok (.iload_n 3, 1) := by decide +kernel
theorem dX8_edgeOf_44 : decode cX8_edgeOf 44 = .ok (.iload 6, 2) := by decide +kernel
theorem dX8_edgeOf_46 : decode cX8_edgeOf 46 = .ok (.bipush (-9), 2) := by decide +kernel
theorem dX8_edgeOf_48 : decode cX8_edgeOf 48 = .ok (.if_icmp .eq 12, 3) := by decide +kernel
theorem dX8_edgeOf_51 : decode cX8_edgeOf 51 = .ok (.lload_n 1, 1) := by decide +kernel
theorem dX8_edgeOf_52 : decode cX8_edgeOf 52 = .ok (.iload 6, 2) := by decide +kernel
theorem dX8_edgeOf_54 : decode cX8_edgeOf 54 = .ok (.invokestatic 78, 3) := by decide +kernel
theorem dX8_edgeOf_57 : decode cX8_edgeOf 57 = .ok (.ifCond .ne 7, 3) := by decide +kernel
theorem dX8_edgeOf_60 : decode cX8_edgeOf 60 = .ok (.iconst 1, 1) := by decide +kernel
theorem dX8_edgeOf_61 : decode cX8_edgeOf 61 = .ok (.goto 4, 3) := by decide +kernel
theorem dX8_edgeOf_64 : decode cX8_edgeOf 64 = .ok (.iconst 0, 1) := by decide +kernel
theorem dX8_edgeOf_65 : decode cX8_edgeOf 65 = .ok (.iadd, 1) := by decide +kernel
theorem dX8_edgeOf_66 : decode cX8_edgeOf 66 = .ok (.istore_n 3, 1) := by decide +kernel
theorem dX8_edgeOf_67 : decode cX8_edgeOf 67 = .ok (.iinc 5 2, 3) := by decide +kernel
theorem dX8_edgeOf_70 : decode cX8_edgeOf 70 = .ok (.goto (-53), 3) := by decide +kernel
theorem dX8_edgeOf_73 : decode cX8_edgeOf 73 = .ok (.iinc 4 1, 3) := by decide +kernel
theorem dX8_edgeOf_76 : decode cX8_edgeOf 76 = .ok (.goto (-71), 3) := by decide +kernel
theorem dX8_edgeOf_79 : decode cX8_edgeOf 79 = .ok (.iload_n 3, 1) := by decide +kernel
theorem dX8_edgeOf_80 : decode cX8_edgeOf 80 = .ok (.ireturn, 1) := by decide +kernel
set_option maxHeartbeats 4000000 in
set_option maxRecDepth 100000 in
theorem wX8_edgeOf_L17 {n : Nat} {v1 : Int64} {v4 : Int32} (hx : p.tables.exec = Jvm.exec) (hb : c.code = cX8_edgeOf) (hml : c.maxLocals = 7) (hown : s.vm.findClass RX8 = some m.cls) (hts : ∀ w ∈ tw, w.before args s = true) (hK : va_K D vwCl [(cI, .int), (cJ, .long)] s) (hP : va_P D vwCl (wdM cJ cI oM oM1 oM2 oM3 oM4 oM5 oM6 oM7 oM8 oM9 oM10 oM11 mw mt mrim mjn mhm mpn mbm mgm mpi mst mam mac mro mbe mhi mmi mgr mtr mle) H) (hR : 2 ≤ R.frames ∧ 49 ≤ R.locals ∧ cells ≤ R.cells ∧ slots ≤ R.slots) : ∀ (k : Nat) (v3 : Int32) (v5 : Int32) (x3 : Int32), mX8_edgeOf_L17 n v1 v4 mw mt k v3 v5 = some (x3) → ∀ ls : Array Slot, lv_has ls 7 [(0, .ref oM), (1, .long v1), (3, .int v3), (4, .int v4), (5, .int v5)] → (∀ ls : Array Slot, lv_has ls 7 [(3, .int x3), (0, .ref oM), (1, .long v1), (4, .int v4)] → W p l e R s m args below meth c H locs cells slots Q (F0 m 73 ls [])) → W p l e R s m args below meth c H locs cells slots Q (F0 m 17 ls []) := by
  intro k
  induction k with
  | zero => intro v3 v5 x3 hm; rw [mX8_edgeOf_L17] at hm; cases hm
  | succ k ih =>
    intro v3 v5 x3 hm ls hl K0
    rw [mX8_edgeOf_L17] at hm
    refine lv_iload hx hb dX8_edgeOf_17 (lv_at hl 4 rfl) ?_
    refine lv_bipush (v := (9 : Int32)) hx hb dX8_edgeOf_19 (by decide) ?_
    refine lv_icmp_ge (tgt := 73) hx hb dX8_edgeOf_21 (by decide) (fun c5 => ?_) (fun c5 => ?_)
    · rw [if_pos c5] at hm
      have hm := Option.some.inj hm
      have e9 : x3 = v3 := (congrArg (fun q => q) hm).symm
      rw [e9] at K0
      exact K0 ls (lv_sub hl [2, 0, 1, 3] rfl)
    · rw [if_neg c5] at hm
      refine lv_lload_n hx hb dX8_edgeOf_24 rfl (lv_at hl 1 rfl) ?_
      refine lv_iload hx hb dX8_edgeOf_25 (lv_at hl 3 rfl) ?_
      refine kX8_has ⟨hx, hb, hml, hown, hts⟩ qw_81 hl.1 ⟨Nat.le_trans (by decide) hR.1, Nat.le_trans (by decide) hR.2.1, hR.2.2⟩ (Nat.le_of_ble_eq_true rfl) dX8_edgeOf_27 ?_
      refine lv_if_eq (tgt := 73) hx hb dX8_edgeOf_30 (by decide) (fun c7 => ?_) (fun c7 => ?_)
      · rw [if_pos c7] at hm
        have hm := Option.some.inj hm
        have e9 : x3 = v3 := (congrArg (fun q => q) hm).symm
        rw [e9] at K0
        exact K0 ls (lv_sub hl [2, 0, 1, 3] rfl)
      · rw [if_neg c7] at hm
        refine lv_aload_n hx hb dX8_edgeOf_33 rfl (lv_at hl 0 rfl) ?_
        refine lv_iload hx hb dX8_edgeOf_34 (lv_at hl 3 rfl) ?_
        refine lv_iload hx hb dX8_edgeOf_36 (lv_at hl 4 rfl) ?_
        obtain ⟨r8, h9, hm⟩ := jb_out hm
        refine kX8_stepFrom ⟨hx, hb, hml, hown, hts⟩ qw_82 hP hK h9 hl.1 ⟨Nat.le_trans (by decide) hR.1, Nat.le_trans (by decide) hR.2.1, hR.2.2⟩ (Nat.le_of_ble_eq_true rfl) dX8_edgeOf_38 ?_
        refine lv_istore (lv' := [(6, .int r8), (0, .ref oM), (1, .long v1), (3, .int v3), (4, .int v4), (5, .int v5)]) hx hb dX8_edgeOf_41 hl (by decide) rfl (fun ls hl => ?_)
        refine lv_iload_n hx hb dX8_edgeOf_43 rfl (lv_at hl 3 rfl) ?_
        refine lv_iload hx hb dX8_edgeOf_44 (lv_at hl 0 rfl) ?_
        refine lv_bipush (v := (-9 : Int32)) hx hb dX8_edgeOf_46 (by decide) ?_
        obtain ⟨j10, hi11, hm⟩ := jl_out hm
        have key12 : ∀ (ls : Array Slot), lv_has ls 7 [(0, .ref oM), (1, .long v1), (4, .int v4), (5, .int v5)] → W p l e R s m args below meth c H locs cells slots Q (F0 m 65 ls [.int j10, .int v3]) := by
          intro ls hl
          refine lv_iadd hx hb dX8_edgeOf_65 ?_
          refine lv_istore_n (lv' := [(3, .int (v3 + j10)), (0, .ref oM), (1, .long v1), (4, .int v4), (5, .int v5)]) hx hb dX8_edgeOf_66 rfl hl (by decide) rfl (fun ls hl => ?_)
          refine lv_iinc (v := (v5 + (2 : Int32))) (lv' := [(5, .int (v5 + (2 : Int32))), (3, .int (v3 + j10)), (0, .ref oM), (1, .long v1), (4, .int v4)]) hx hb dX8_edgeOf_67 hl (k := 4) rfl (by rfl) (by decide) rfl (fun ls hl => ?_)
          refine lv_goto (tgt := 17) hx hb dX8_edgeOf_70 (by decide) ?_
          exact ih _ _ _ hm ls (lv_sub hl [2, 3, 1, 4, 0] rfl) K0
        refine lv_icmp_eq (tgt := 60) hx hb dX8_edgeOf_48 (by decide) (fun c13 => ?_) (fun c13 => ?_)
        · rw [if_pos c13] at hi11
          refine lv_iconst (v := (1 : Int32)) hx hb dX8_edgeOf_60 (by decide) ?_
          refine lv_goto (tgt := 65) hx hb dX8_edgeOf_61 (by decide) ?_
          rw [hi11] at key12
          exact key12 ls (lv_sub hl [1, 2, 4, 5] rfl)
        · rw [if_neg c13] at hi11
          refine lv_lload_n hx hb dX8_edgeOf_51 rfl (lv_at hl 2 rfl) ?_
          refine lv_iload hx hb dX8_edgeOf_52 (lv_at hl 0 rfl) ?_
          refine kX8_has ⟨hx, hb, hml, hown, hts⟩ qw_81 hl.1 ⟨Nat.le_trans (by decide) hR.1, Nat.le_trans (by decide) hR.2.1, hR.2.2⟩ (Nat.le_of_ble_eq_true rfl) dX8_edgeOf_54 ?_
          refine lv_if_ne (tgt := 64) hx hb dX8_edgeOf_57 (by decide) (fun c15 => ?_) (fun c15 => ?_)
          · rw [if_neg c15] at hi11
            refine lv_iconst (v := (0 : Int32)) hx hb dX8_edgeOf_64 (by decide) ?_
            rw [hi11] at key12
            exact key12 ls (lv_sub hl [1, 2, 4, 5] rfl)
          · rw [if_pos c15] at hi11
            refine lv_iconst (v := (1 : Int32)) hx hb dX8_edgeOf_60 (by decide) ?_
            refine lv_goto (tgt := 65) hx hb dX8_edgeOf_61 (by decide) ?_
            rw [hi11] at key12
            exact key12 ls (lv_sub hl [1, 2, 4, 5] rfl)
set_option maxHeartbeats 4000000 in
set_option maxRecDepth 100000 in
theorem wX8_edgeOf_L5 {n : Nat} {v1 : Int64} (hx : p.tables.exec = Jvm.exec) (hb : c.code = cX8_edgeOf) (hml : c.maxLocals = 7) (hown : s.vm.findClass RX8 = some m.cls) (hts : ∀ w ∈ tw, w.before args s = true) (hK : va_K D vwCl [(cI, .int), (cJ, .long)] s) (hP : va_P D vwCl (wdM cJ cI oM oM1 oM2 oM3 oM4 oM5 oM6 oM7 oM8 oM9 oM10 oM11 mw mt mrim mjn mhm mpn mbm mgm mpi mst mam mac mro mbe mhi mmi mgr mtr mle) H) (hR : 2 ≤ R.frames ∧ 49 ≤ R.locals ∧ cells ≤ R.cells ∧ slots ≤ R.slots) : ∀ (k : Nat) (v3 : Int32) (v4 : Int32) (x3 : Int32), mX8_edgeOf_L5 n mw mt v1 k v3 v4 = some (x3) → ∀ ls : Array Slot, lv_has ls 7 [(0, .ref oM), (1, .long v1), (3, .int v3), (4, .int v4)] → (∀ ls : Array Slot, lv_has ls 7 [(3, .int x3)] → W p l e R s m args below meth c H locs cells slots Q (F0 m 79 ls [])) → W p l e R s m args below meth c H locs cells slots Q (F0 m 5 ls []) := by
  intro k
  induction k with
  | zero => intro v3 v4 x3 hm; rw [mX8_edgeOf_L5] at hm; cases hm
  | succ k ih =>
    intro v3 v4 x3 hm ls hl K0
    rw [mX8_edgeOf_L5] at hm
    refine lv_iload hx hb dX8_edgeOf_5 (lv_at hl 3 rfl) ?_
    refine lv_aload_n hx hb dX8_edgeOf_7 rfl (lv_at hl 0 rfl) ?_
    refine kX8_cells ⟨hx, hb, hml, hown, hts⟩ qw_60 hP hK hl.1 ⟨Nat.le_trans (by decide) hR.1, Nat.le_trans (by decide) hR.2.1, hR.2.2⟩ (Nat.le_of_ble_eq_true rfl) dX8_edgeOf_8 ?_
    refine lv_icmp_ge (tgt := 79) hx hb dX8_edgeOf_11 (by decide) (fun c3 => ?_) (fun c3 => ?_)
    · rw [if_pos c3] at hm
      have hm := Option.some.inj hm
      have e9 : x3 = v3 := (congrArg (fun q => q) hm).symm
      rw [e9] at K0
      exact K0 ls (lv_sub hl [2] rfl)
    · rw [if_neg c3] at hm
      refine lv_iconst (v := (1 : Int32)) hx hb dX8_edgeOf_14 (by decide) ?_
      refine lv_istore (lv' := [(5, .int (1 : Int32)), (0, .ref oM), (1, .long v1), (3, .int v3), (4, .int v4)]) hx hb dX8_edgeOf_15 hl (by decide) rfl (fun ls hl => ?_)
      obtain ⟨y16, h17, hm⟩ := jb_out hm
      refine wX8_edgeOf_L17 hx hb hml hown hts hK hP hR n _ _ _  h17 ls (lv_sub hl [1, 2, 3, 4, 0] rfl) (fun ls hl => ?_)
      refine lv_iinc (v := (v4 + (1 : Int32))) (lv' := [(4, .int (v4 + (1 : Int32))), (3, .int y16), (0, .ref oM), (1, .long v1)]) hx hb dX8_edgeOf_73 hl (k := 3) rfl (by rfl) (by decide) rfl (fun ls hl => ?_)
      refine lv_goto (tgt := 5) hx hb dX8_edgeOf_76 (by decide) ?_
      exact ih _ _ _ hm ls (lv_sub hl [2, 3, 1, 0] rfl) K0
set_option maxHeartbeats 4000000 in
set_option maxRecDepth 100000 in
theorem bX8_edgeOf {n : Nat} {a1 : Int64} {r : Int32} (hx : p.tables.exec = Jvm.exec) (hb : c.code = cX8_edgeOf) (hml : c.maxLocals = 7) (hown : s.vm.findClass RX8 = some m.cls) (hts : ∀ w ∈ tw, w.before args s = true) (hK : va_K D vwCl [(cI, .int), (cJ, .long)] s) (hP : va_P D vwCl (wdM cJ cI oM oM1 oM2 oM3 oM4 oM5 oM6 oM7 oM8 oM9 oM10 oM11 mw mt mrim mjn mhm mpn mbm mgm mpi mst mam mac mro mbe mhi mmi mgr mtr mle) H) (hR : 2 ≤ R.frames ∧ 49 ≤ R.locals ∧ cells ≤ R.cells ∧ slots ≤ R.slots) (hm : mX8_edgeOf n mw mt a1 = some r) (ls : Array Slot) (hl : lv_has ls 7 [(0, .ref oM), (1, .long a1)]) (K : ∀ (pc : Nat) (ls : Array Slot), decode cX8_edgeOf pc = .ok (.ireturn, 1) → W p l e R s m args below meth c H locs cells slots Q (F0 m pc ls [.int r])) : W p l e R s m args below meth c H locs cells slots Q (F0 m 0 ls []) := by
  unfold mX8_edgeOf at hm
  refine lv_iconst (v := (0 : Int32)) hx hb dX8_edgeOf_0 (by decide) ?_
  refine lv_istore_n (lv' := [(3, .int (0 : Int32)), (0, .ref oM), (1, .long a1)]) hx hb dX8_edgeOf_1 rfl hl (by decide) rfl (fun ls hl => ?_)
  refine lv_iconst (v := (0 : Int32)) hx hb dX8_edgeOf_2 (by decide) ?_
  refine lv_istore (lv' := [(4, .int (0 : Int32)), (3, .int (0 : Int32)), (0, .ref oM), (1, .long a1)]) hx hb dX8_edgeOf_3 hl (by decide) rfl (fun ls hl => ?_)
  obtain ⟨y18, h19, hm⟩ := jb_out hm
  refine wX8_edgeOf_L5 hx hb hml hown hts hK hP hR n _ _ _  h19 ls (lv_sub hl [2, 3, 1, 0] rfl) (fun ls hl => ?_)
  refine lv_iload_n hx hb dX8_edgeOf_79 rfl (lv_at hl 0 rfl) ?_
  have hm := Option.some.inj hm
  subst hm
  exact K 80 ls dX8_edgeOf_80
set_option maxHeartbeats 4000000 in
set_option maxRecDepth 100000 in
theorem tX8_edgeOf (l : Launch) {D : va_G} {n : Nat} {a1 : Int64} {r : Int32} (hm : mX8_edgeOf n mw mt a1 = some r) : Met l yX8_edgeOf (.code yX8_edgeOf cX8_edgeOf 7 (some .int) :: tw) ({ frames := 2, cells := 0, slots := 0, locals := 49 } : Room) (rdP D [.ref oM, .long a1] (wdM cJ cI oM oM1 oM2 oM3 oM4 oM5 oM6 oM7 oM8 oM9 oM10 oM11 mw mt mrim mjn mhm mpn mbm mgm mpi mst mam mac mro mbe mhi mmi mgr mtr mle) [(cI, .int), (cJ, .long)]) (vp_Si (fun q => q = r)) 0 0 (fun _ => False) := by
  refine Met.ofW (cc := cX8_edgeOf) (maxL := 7) (ret := (some .int)) (by decide) rfl ?_
  intro p e s m args below meth c s₁ B hml hv
  obtain ⟨rfl, hP, hK⟩ := hv
  have hx := B.exec
  have hb := B.bytes
  have hr := B.returns
  have hts : ∀ w ∈ tw, w.before _ s = true := fun w h => atoms_spec (ws := .code yX8_edgeOf cX8_edgeOf 7 (some .int) :: tw) B.pre w (List.mem_cons_of_mem _ h)
  have hown : s.vm.findClass RX8 = some m.cls := findClass_of_methodNamed B.named
  have hlocks := B.notSynchronized
  have hl := lv_entry ([.ref oM, .long a1]) (n := 7) (Nat.le_of_ble_eq_true rfl)
  rw [lg_entry_eq]
  generalize (lg_sl ([.ref oM, .long a1]) ++ List.replicate (7 - (lg_sl ([.ref oM, .long a1])).length) Slot.unset).toArray = ls at hl ⊢
  refine bX8_edgeOf hx hb hml hown hts hK hP ⟨Nat.le_of_ble_eq_true rfl, Nat.le_of_ble_eq_true rfl, Nat.zero_le _, Nat.zero_le _⟩ hm ls hl (fun pc ls hd => ?_)
  exact W.iret hx hb hr (fun t ht hW => ⟨r, rfl, rfl, ht⟩) (fun q h => by cases h) hd
set_option maxHeartbeats 4000000 in
set_option maxRecDepth 100000 in
theorem kX8_edgeOf {own : String} {cc : ByteArray} {nL idx pc : Nat} {ls : Array Slot} {rest : List Value} {n : Nat} {a1 : Int64} {r : Int32} (fx : CallFix p m c cc nL s args tw own) (hq : Cond.methodLink own idx yX8_edgeOf ∈ tw) (hP : va_P D vwCl (wdM cJ cI oM oM1 oM2 oM3 oM4 oM5 oM6 oM7 oM8 oM9 oM10 oM11 mw mt mrim mjn mhm mpn mbm mgm mpi mst mam mac mro mbe mhi mmi mgr mtr mle) H) (hK : va_K D vwCl [(cI, .int), (cJ, .long)] s) (hm : mX8_edgeOf n mw mt a1 = some r) (hsz : ls.size = nL) (hR : 3 ≤ R.frames ∧ 75 ≤ R.locals ∧ cells ≤ R.cells ∧ slots ≤ R.slots) (hst : (rest.map fun v => v.category).sum ≤ 8) (hd : decode cc pc = .ok (.invokevirtual idx, 3)) (kk : W p l e R s m args below meth c H locs cells slots Q (F0 m (pc + 3) ls (.int r :: rest))) : W p l e R s m args below meth c H locs cells slots Q (F0 m pc ls (.long a1 :: .ref oM :: rest)) := by
  exact vp_callSi (va_Run.run (va_runV (As := [.long a1]) (rest := rest) fx (tX8_edgeOf l hm) (cwV 1 fx.2.2.2.2 (tw_V hq qw_145 qw_146 qw_53 qw_147) rfl rfl rfl (by decide +kernel) ⟨hR.1, hR.2.1⟩) ⟨rdP_bl, va_recv hK hP (ci := 8) (q0 := 0) rfl rfl, rdP_ok hP hK⟩ rfl rfl hsz rfl (lv_room hst) hd ⟨hR.2.2.1, hR.2.2.2⟩)) (fun r9 hr9 => by first | (rw [hr9]; exact kk) | (rw [hr9.1]; exact kk))
-- X8_piece
def mX8_piece (n : Nat) (mw : Int32) (mt : Int32) (mpi : Nat → Int64) (mjn : Int32) (a1 : Int32) (a2 : Int32) : Option Int32 :=
  (if (mX8_isPicture a1) = 0 then (some (-1 : Int32)) else (if (mX8_isCell mw mt a2) = 0 then (some (-1 : Int32)) else gd (ib a1 5) ((if (mX8_has (mpi a1.toNatClampNeg) a2) = 0 then (some (-3 : Int32)) else gd (ib a1 5) (jb (mX8_pieceOf n mw mt (mpi a1.toNatClampNeg) a2 mjn) (fun (r9 : Int64) => jb (mX8_many n r9) (fun (r11 : Int32) => (some r11))))))))
theorem dX8_piece_0 : decode cX8_piece 0 = .ok (.iload_n 1, 1) := by decide +kernel
theorem dX8_piece_1 : decode cX8_piece 1 = .ok (.invokestatic 71, 3) := by decide +kernel
theorem dX8_piece_4 : decode cX8_piece 4 = .ok (.ifCond .eq 11, 3) := by decide +kernel
theorem dX8_piece_7 : decode cX8_piece 7 = .ok (.aload_n 0, 1) := by decide +kernel
theorem dX8_piece_8 : decode cX8_piece 8 = .ok (.iload_n 2, 1) := by decide +kernel
theorem dX8_piece_9 : decode cX8_piece 9 = .ok (.invokevirtual 75, 3) := by decide +kernel
theorem dX8_piece_12 : decode cX8_piece 12 = .ok (.ifCond .ne 5, 3) := by decide +kernel
theorem dX8_piece_15 : decode cX8_piece 15 = .ok (.iconst (-1), 1) := by decide +kernel
theorem dX8_piece_16 : decode cX8_piece 16 = .ok (.ireturn, 1) := by decide +kernel
theorem dX8_piece_17 : decode cX8_piece 17 = .ok (.aload_n 0, 1) := by decide +kernel
theorem dX8_piece_18 : decode cX8_piece 18 = .ok (.getfield 16, 3) := by decide +kernel
theorem dX8_piece_21 : decode cX8_piece 21 = .ok (.iload_n 1, 1) := by decide +kernel
theorem dX8_piece_22 : decode cX8_piece 22 = .ok (.laload, 1) := by decide +kernel
theorem dX8_piece_23 : decode cX8_piece 23 = .ok (.iload_n 2, 1) := by decide +kernel
theorem dX8_piece_24 : decode cX8_piece 24 = .ok (.invokestatic 78, 3) := by decide +kernel
theorem dX8_piece_27 : decode cX8_piece 27 = .ok (.ifCond .eq 24, 3) := by decide +kernel
theorem dX8_piece_30 : decode cX8_piece 30 = .ok (.aload_n 0, 1) := by decide +kernel
theorem dX8_piece_31 : decode cX8_piece 31 = .ok (.aload_n 0, 1) := by decide +kernel
theorem dX8_piece_32 : decode cX8_piece 32 = .ok (.getfield 16, 3) := by decide +kernel
theorem dX8_piece_35 : decode cX8_piece 35 = .ok (.iload_n 1, 1) := by decide +kernel
theorem dX8_piece_36 : decode cX8_piece 36 = .ok (.laload, 1) := by decide +kernel
theorem dX8_piece_37 : decode cX8_piece 37 = .ok (.iload_n 2, 1) := by decide +kernel
theorem dX8_piece_38 : decode cX8_piece 38 = .ok (.aload_n 0, 1) := by decide +kernel
theorem dX8_piece_39 : decode cX8_piece 39 = .ok (.getfield 27, 3) := by decide +kernel
theorem dX8_piece_42 : decode cX8_piece 42 = .ok (.invokevirtual 142, 3) := by decide +kernel
theorem dX8_piece_45 : decode cX8_piece 45 = .ok (.invokestatic 88, 3) := by decide +kernel
theorem dX8_piece_48 : decode cX8_piece 48 = .ok (.goto 5, 3) := by decide +kernel
theorem dX8_piece_51 : decode cX8_piece 51 = .ok (.bipush (-3), 2) := by decide +kernel
theorem dX8_piece_53 : decode cX8_piece 53 = .ok (.ireturn, 1) := by decide +kernel
set_option maxHeartbeats 4000000 in
set_option maxRecDepth 100000 in
theorem bX8_piece {n : Nat} {a1 : Int32} {a2 : Int32} {r : Int32} (hx : p.tables.exec = Jvm.exec) (hb : c.code = cX8_piece) (hml : c.maxLocals = 3) (hown : s.vm.findClass RX8 = some m.cls) (hts : ∀ w ∈ tw, w.before args s = true) (hK : va_K D vwCl [(cI, .int), (cJ, .long)] s) (hP : va_P D vwCl (wdM cJ cI oM oM1 oM2 oM3 oM4 oM5 oM6 oM7 oM8 oM9 oM10 oM11 mw mt mrim mjn mhm mpn mbm mgm mpi mst mam mac mro mbe mhi mmi mgr mtr mle) H) (hR : 4 ≤ R.frames ∧ 106 ≤ R.locals ∧ cells ≤ R.cells ∧ slots ≤ R.slots) (hm : mX8_piece n mw mt mpi mjn a1 a2 = some r) (ls : Array Slot) (hl : lv_has ls 3 [(0, .ref oM), (1, .int a1), (2, .int a2)]) (K : ∀ (pc : Nat) (ls : Array Slot), decode cX8_piece pc = .ok (.ireturn, 1) → W p l e R s m args below meth c H locs cells slots Q (F0 m pc ls [.int r])) : W p l e R s m args below meth c H locs cells slots Q (F0 m 0 ls []) := by
  unfold mX8_piece at hm
  refine lv_iload_n hx hb dX8_piece_0 rfl (lv_at hl 1 rfl) ?_
  refine kX8_isPicture ⟨hx, hb, hml, hown, hts⟩ qw_101 hl.1 ⟨Nat.le_trans (by decide) hR.1, Nat.le_trans (by decide) hR.2.1, hR.2.2⟩ (Nat.le_of_ble_eq_true rfl) dX8_piece_1 ?_
  refine lv_if_eq (tgt := 15) hx hb dX8_piece_4 (by decide) (fun c2 => ?_) (fun c2 => ?_)
  · rw [if_pos c2] at hm
    refine lv_iconst (v := (-1 : Int32)) hx hb dX8_piece_15 (by decide) ?_
    have hm := Option.some.inj hm
    subst hm
    exact K 16 ls dX8_piece_16
  · rw [if_neg c2] at hm
    refine lv_aload_n hx hb dX8_piece_7 rfl (lv_at hl 0 rfl) ?_
    refine lv_iload_n hx hb dX8_piece_8 rfl (lv_at hl 2 rfl) ?_
    refine kX8_isCell ⟨hx, hb, hml, hown, hts⟩ qw_102 hP hK hl.1 ⟨Nat.le_trans (by decide) hR.1, Nat.le_trans (by decide) hR.2.1, hR.2.2⟩ (Nat.le_of_ble_eq_true rfl) dX8_piece_9 ?_
    refine lv_if_ne (tgt := 17) hx hb dX8_piece_12 (by decide) (fun c4 => ?_) (fun c4 => ?_)
    · rw [if_neg c4] at hm
      refine lv_aload_n hx hb dX8_piece_17 rfl (lv_at hl 0 rfl) ?_
      refine va_get (D := D) (ci := 8) (v := .ref oM1) (C := RX8) (T := TX8) (N := 19) hx hb hts tnX8 hown hK hP 0 rfl rfl 2 (by decide) (hts _ qw_103) (fun _ h9 => h9) rfl dX8_piece_18 ?_
      refine lv_iload_n hx hb dX8_piece_21 rfl (lv_at hl 1 rfl) ?_
      obtain ⟨g5, hm⟩ := gd_out hm
      refine va_lald hx hb hK hP 1 1 rfl rfl g5 dX8_piece_22 ?_
      refine lv_iload_n hx hb dX8_piece_23 rfl (lv_at hl 2 rfl) ?_
      refine kX8_has ⟨hx, hb, hml, hown, hts⟩ qw_81 hl.1 ⟨Nat.le_trans (by decide) hR.1, Nat.le_trans (by decide) hR.2.1, hR.2.2⟩ (Nat.le_of_ble_eq_true rfl) dX8_piece_24 ?_
      refine lv_if_eq (tgt := 51) hx hb dX8_piece_27 (by decide) (fun c7 => ?_) (fun c7 => ?_)
      · rw [if_pos c7] at hm
        refine lv_bipush (v := (-3 : Int32)) hx hb dX8_piece_51 (by decide) ?_
        have hm := Option.some.inj hm
        subst hm
        exact K 53 ls dX8_piece_53
      · rw [if_neg c7] at hm
        refine lv_aload_n hx hb dX8_piece_30 rfl (lv_at hl 0 rfl) ?_
        refine lv_aload_n hx hb dX8_piece_31 rfl (lv_at hl 0 rfl) ?_
        refine va_get (D := D) (ci := 8) (v := .ref oM1) (C := RX8) (T := TX8) (N := 19) hx hb hts tnX8 hown hK hP 0 rfl rfl 2 (by decide) (hts _ qw_103) (fun _ h9 => h9) rfl dX8_piece_32 ?_
        refine lv_iload_n hx hb dX8_piece_35 rfl (lv_at hl 1 rfl) ?_
        obtain ⟨g8, hm⟩ := gd_out hm
        refine va_lald hx hb hK hP 1 1 rfl rfl g8 dX8_piece_36 ?_
        refine lv_iload_n hx hb dX8_piece_37 rfl (lv_at hl 2 rfl) ?_
        refine lv_aload_n hx hb dX8_piece_38 rfl (lv_at hl 0 rfl) ?_
        refine va_get (D := D) (ci := 8) (v := .int mjn) (C := RX8) (T := TX8) (N := 19) hx hb hts tnX8 hown hK hP 0 rfl rfl 5 (by decide) (hts _ qw_140) (fun _ h9 => h9) rfl dX8_piece_39 ?_
        obtain ⟨r9, h10, hm⟩ := jb_out hm
        refine kX8_pieceOf ⟨hx, hb, hml, hown, hts⟩ qw_141 hP hK h10 hl.1 ⟨Nat.le_trans (by decide) hR.1, Nat.le_trans (by decide) hR.2.1, hR.2.2⟩ (Nat.le_of_ble_eq_true rfl) dX8_piece_42 ?_
        obtain ⟨r11, h12, hm⟩ := jb_out hm
        refine kX8_many ⟨hx, hb, hml, hown, hts⟩ qw_112 h12 hl.1 ⟨Nat.le_trans (by decide) hR.1, Nat.le_trans (by decide) hR.2.1, hR.2.2⟩ (Nat.le_of_ble_eq_true rfl) dX8_piece_45 ?_
        refine lv_goto (tgt := 53) hx hb dX8_piece_48 (by decide) ?_
        have hm := Option.some.inj hm
        subst hm
        exact K 53 ls dX8_piece_53
    · rw [if_pos c4] at hm
      refine lv_iconst (v := (-1 : Int32)) hx hb dX8_piece_15 (by decide) ?_
      have hm := Option.some.inj hm
      subst hm
      exact K 16 ls dX8_piece_16
set_option maxHeartbeats 4000000 in
set_option maxRecDepth 100000 in
theorem tX8_piece (l : Launch) {D : va_G} {n : Nat} {a1 : Int32} {a2 : Int32} {r : Int32} (hm : mX8_piece n mw mt mpi mjn a1 a2 = some r) : Met l yX8_piece (.code yX8_piece cX8_piece 3 (some .int) :: tw) ({ frames := 4, cells := 0, slots := 0, locals := 106 } : Room) (rdP D [.ref oM, .int a1, .int a2] (wdM cJ cI oM oM1 oM2 oM3 oM4 oM5 oM6 oM7 oM8 oM9 oM10 oM11 mw mt mrim mjn mhm mpn mbm mgm mpi mst mam mac mro mbe mhi mmi mgr mtr mle) [(cI, .int), (cJ, .long)]) (vp_Si (fun q => q = r)) 0 0 (fun _ => False) := by
  refine Met.ofW (cc := cX8_piece) (maxL := 3) (ret := (some .int)) (by decide) rfl ?_
  intro p e s m args below meth c s₁ B hml hv
  obtain ⟨rfl, hP, hK⟩ := hv
  have hx := B.exec
  have hb := B.bytes
  have hr := B.returns
  have hts : ∀ w ∈ tw, w.before _ s = true := fun w h => atoms_spec (ws := .code yX8_piece cX8_piece 3 (some .int) :: tw) B.pre w (List.mem_cons_of_mem _ h)
  have hown : s.vm.findClass RX8 = some m.cls := findClass_of_methodNamed B.named
  have hlocks := B.notSynchronized
  have hl := lv_entry ([.ref oM, .int a1, .int a2]) (n := 3) (Nat.le_of_ble_eq_true rfl)
  rw [lg_entry_eq]
  generalize (lg_sl ([.ref oM, .int a1, .int a2]) ++ List.replicate (3 - (lg_sl ([.ref oM, .int a1, .int a2])).length) Slot.unset).toArray = ls at hl ⊢
  refine bX8_piece hx hb hml hown hts hK hP ⟨Nat.le_of_ble_eq_true rfl, Nat.le_of_ble_eq_true rfl, Nat.zero_le _, Nat.zero_le _⟩ hm ls hl (fun pc ls hd => ?_)
  exact W.iret hx hb hr (fun t ht hW => ⟨r, rfl, rfl, ht⟩) (fun q h => by cases h) hd
set_option maxHeartbeats 4000000 in
set_option maxRecDepth 100000 in
theorem kX8_piece {own : String} {cc : ByteArray} {nL idx pc : Nat} {ls : Array Slot} {rest : List Value} {n : Nat} {a1 : Int32} {a2 : Int32} {r : Int32} (fx : CallFix p m c cc nL s args tw own) (hq : Cond.methodLink own idx yX8_piece ∈ tw) (hP : va_P D vwCl (wdM cJ cI oM oM1 oM2 oM3 oM4 oM5 oM6 oM7 oM8 oM9 oM10 oM11 mw mt mrim mjn mhm mpn mbm mgm mpi mst mam mac mro mbe mhi mmi mgr mtr mle) H) (hK : va_K D vwCl [(cI, .int), (cJ, .long)] s) (hm : mX8_piece n mw mt mpi mjn a1 a2 = some r) (hsz : ls.size = nL) (hR : 5 ≤ R.frames ∧ 128 ≤ R.locals ∧ cells ≤ R.cells ∧ slots ≤ R.slots) (hst : (rest.map fun v => v.category).sum ≤ 8) (hd : decode cc pc = .ok (.invokevirtual idx, 3)) (kk : W p l e R s m args below meth c H locs cells slots Q (F0 m (pc + 3) ls (.int r :: rest))) : W p l e R s m args below meth c H locs cells slots Q (F0 m pc ls (.int a2 :: .int a1 :: .ref oM :: rest)) := by
  exact vp_callSi (va_Run.run (va_runV (As := [.int a1, .int a2]) (rest := rest) fx (tX8_piece l hm) (cwV 2 fx.2.2.2.2 (tw_V hq qw_148 qw_149 qw_53 qw_150) rfl rfl rfl (by decide +kernel) ⟨hR.1, hR.2.1⟩) ⟨rdP_bl, va_recv hK hP (ci := 8) (q0 := 0) rfl rfl, rdP_ok hP hK⟩ rfl rfl hsz rfl (lv_room hst) hd ⟨hR.2.2.1, hR.2.2.2⟩)) (fun r9 hr9 => by first | (rw [hr9]; exact kk) | (rw [hr9.1]; exact kk))
end
