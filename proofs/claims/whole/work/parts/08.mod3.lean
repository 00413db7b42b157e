theorem qw_151 : Cond.fieldLink RX8 42 "WornShapesModel" "hit" "[I" ∈ tw := tw_of (by decide +kernel) rfl
theorem qw_152 : Cond.fieldLink RX8 45 "WornShapesModel" "miss" "[I" ∈ tw := tw_of (by decide +kernel) rfl
theorem qw_153 : Cond.instanceMethod yX8_hitsOf ∈ tw := tw_of (by decide +kernel) rfl
theorem qw_154 : Cond.selects RX8 yX8_hitsOf yX8_hitsOf ∈ tw := tw_of (by decide +kernel) rfl
theorem qw_155 : Cond.code yX8_hitsOf cX8_hitsOf 13 (some .long) ∈ tw := tw_of (by decide +kernel) rfl
theorem qw_156 : Cond.fieldLink RX8 159 "WornShapesModel" "pairs" "I" ∈ tw := tw_of (by decide +kernel) rfl
theorem qw_157 : Cond.methodLink RX8 162 yX8_hitsOf ∈ tw := tw_of (by decide +kernel) rfl
theorem qw_158 : Cond.instanceMethod yX8_hits ∈ tw := tw_of (by decide +kernel) rfl
theorem qw_159 : Cond.selects RX8 yX8_hits yX8_hits ∈ tw := tw_of (by decide +kernel) rfl
theorem qw_160 : Cond.code yX8_hits cX8_hits 3 (some .int) ∈ tw := tw_of (by decide +kernel) rfl
theorem qw_161 : Cond.constantLong RX8 92 (3) ∈ tw := tw_of (by decide +kernel) rfl
theorem qw_162 : Cond.instanceMethod yX8_deep ∈ tw := tw_of (by decide +kernel) rfl
theorem qw_163 : Cond.selects RX8 yX8_deep yX8_deep ∈ tw := tw_of (by decide +kernel) rfl
theorem qw_164 : Cond.code yX8_deep cX8_deep 7 (some .int) ∈ tw := tw_of (by decide +kernel) rfl
theorem qw_165 : Cond.instanceMethod yX8_explains ∈ tw := tw_of (by decide +kernel) rfl
theorem qw_166 : Cond.selects RX8 yX8_explains yX8_explains ∈ tw := tw_of (by decide +kernel) rfl
theorem qw_167 : Cond.code yX8_explains cX8_explains 5 (some .int) ∈ tw := tw_of (by decide +kernel) rfl
theorem qw_168 : Cond.instanceMethod yX8_least ∈ tw := tw_of (by decide +kernel) rfl
theorem qw_169 : Cond.selects RX8 yX8_least yX8_least ∈ tw := tw_of (by decide +kernel) rfl
theorem qw_170 : Cond.code yX8_least cX8_least 6 (some .int) ∈ tw := tw_of (by decide +kernel) rfl
theorem qw_171 : Cond.methodLink RX8 84 yX8_boxOf ∈ tw := tw_of (by decide +kernel) rfl
theorem qw_172 : Cond.instanceMethod yX8_isAllIn ∈ tw := tw_of (by decide +kernel) rfl
theorem qw_173 : Cond.selects RX8 yX8_isAllIn yX8_isAllIn ∈ tw := tw_of (by decide +kernel) rfl
theorem qw_174 : Cond.code yX8_isAllIn cX8_isAllIn 7 (some .boolean) ∈ tw := tw_of (by decide +kernel) rfl
theorem qw_175 : Cond.methodLink RX8 165 yX8_isAllIn ∈ tw := tw_of (by decide +kernel) rfl
theorem qw_176 : Cond.instanceMethod yX8_isWithin ∈ tw := tw_of (by decide +kernel) rfl
theorem qw_177 : Cond.selects RX8 yX8_isWithin yX8_isWithin ∈ tw := tw_of (by decide +kernel) rfl
theorem qw_178 : Cond.code yX8_isWithin cX8_isWithin 13 (some .boolean) ∈ tw := tw_of (by decide +kernel) rfl
theorem qw_179 : Cond.static yX8_lastOf ∈ tw := tw_of (by decide +kernel) rfl
theorem qw_180 : Cond.code yX8_lastOf cX8_lastOf 3 (some .int) ∈ tw := tw_of (by decide +kernel) rfl
section
variable {A : Nat → Prop} {p : Program} {l : Launch} {e : Env} {R : Room} {s : State} {m : MethodId} {args : Array Value} {below : List Frame} {meth : Method} {c : Code} {H : Heap} {locs : List Loc} {cells slots : Nat} {Q : State → Prop} {D : va_G} {oF : Nat} {oFr : Nat} {oFs : Nat} {oFc : Nat} {oFw : Nat} {oS : Nat} {oSs : Nat} {oG : Nat} {oGa : Nat} {oQ : Nat} {oQw : Nat} {oI : Nat} {oR : Nat} {oRh : Nat} {oRm : Nat} {oB : Nat} {oBw : Nat} {oX : Nat} {oXp : Nat} {oXg : Nat} {oG0 : Nat} {oGa0 : Nat} {oG1 : Nat} {oGa1 : Nat} {oG2 : Nat} {oGa2 : Nat} {oM : Nat} {oM1 : Nat} {oM2 : Nat} {oM3 : Nat} {oM4 : Nat} {oM5 : Nat} {oM6 : Nat} {oM7 : Nat} {oM8 : Nat} {oM9 : Nat} {oM10 : Nat} {oM11 : Nat} {tS : Nat} {tA : Nat} {cI : ClassId} {cJ : ClassId} {cG : ClassId} {fw : Int32} {fc : Int32} {fwh : Int64} {fbo : Int64} {fra : Nat → Int32} {fco : Nat → Int32} {fro : Nat → Int32} {fst : Nat → Int64} {srim : Int32} {sst : Nat → Int32} {gsz : Int32} {gac : Nat → Int32} {qln : Int32} {qwy : Nat → Int32} {ijn : Int32} {rsz : Int32} {rhi : Nat → Int32} {rmi : Nat → Int32} {bsz : Int32} {bfi : Int32} {bla : Int32} {bar : Int32} {bwi : Nat → Int64} {xpi : Nat → Int64} {gs0 : Int32} {gs1 : Int32} {gs2 : Int32} {ga0 : Nat → Int32} {ga1 : Nat → Int32} {ga2 : Nat → Int32} {mw : Int32} {mt : Int32} {mrim : Int32} {mjn : Int32} {mhm : Int32} {mpn : Int32} {mbm : Int32} {mgm : Int32} {mpi : Nat → Int64} {mbe : Nat → Int64} {mgr : Nat → Int64} {mle : Nat → Int64} {mst : Nat → Int32} {mam : Nat → Int32} {mac : Nat → Int32} {mro : Nat → Int32} {mhi : Nat → Int32} {mmi : Nat → Int32} {mtr : Nat → Int32}
-- X8_hitsOf
def mX8_hitsOf_L26 (n : Nat) (mw : Int32) (mt : Int32) (v6 : Int32) (v1 : Int64) (v3 : Int32) (mhi : Nat → Int32) (mst : Nat → Int32) (mmi : Nat → Int32) : Nat → (Int32) → (Int32) → Option ((Int32))
  | 0, _, _ => none
  | k + 1, v7, v8 => (if (9 : Int32) ≤ v8 then some (v7) else (if v7 = 0 then some (v7) else jb (mX8_stepFrom mw mt v6 v8) (fun (r8 : Int32) => jl (if r8 = (-9 : Int32) then (0 : Int32) else (if (mX8_has v1 r8) = 0 then (0 : Int32) else (1 : Int32))) (fun j10 => gd (ib v3 8) (gd (ib (mhi v3.toNatClampNeg) 4) (jl (if (((mst (mhi v3.toNatClampNeg).toNatClampNeg) >>> (v8 &&& 31)) &&& (1 : Int32)) = (1 : Int32) then (1 : Int32) else (0 : Int32)) (fun j18 => gd (ib v3 8) (gd (ib (mmi v3.toNatClampNeg) 4) (jl (if (((mst (mmi v3.toNatClampNeg).toNatClampNeg) >>> (v8 &&& 31)) &&& (1 : Int32)) = (1 : Int32) then (1 : Int32) else (0 : Int32)) (fun j24 => jl (if j18 = 0 then (if j24 = 0 then (1 : Int32) else (if j10 = 0 then (1 : Int32) else (0 : Int32))) else (if j10 = 0 then (0 : Int32) else (if j24 = 0 then (1 : Int32) else (if j10 = 0 then (1 : Int32) else (0 : Int32))))) (fun j28 => mX8_hitsOf_L26 n mw mt v6 v1 v3 mhi mst mmi k j28 (v8 + (1 : Int32)))))))))))))
def mX8_hitsOf_L6 (n : Nat) (mw : Int32) (mt : Int32) (v1 : Int64) (v3 : Int32) (mhi : Nat → Int32) (mst : Nat → Int32) (mmi : Nat → Int32) : Nat → (Int64) → (Int32) → Option ((Int64))
  | 0, _, _ => none
  | k + 1, v4, v6 => (if (mX8_cells mw mt) ≤ v6 then some (v4) else jb (mX8_hitsOf_L26 n mw mt v6 v1 v3 mhi mst mmi n (mX8_has v1 v6) (0 : Int32)) (fun (y37 : Int32) => jl (if y37 = 0 then (0 : Int64) else (jlshl (1 : Int64) v6)) (fun j39 => mX8_hitsOf_L6 n mw mt v1 v3 mhi mst mmi k (v4 ||| j39) (v6 + (1 : Int32)))))
def mX8_hitsOf (n : Nat) (mw : Int32) (mt : Int32) (mhi : Nat → Int32) (mst : Nat → Int32) (mmi : Nat → Int32) (a1 : Int64) (a3 : Int32) : Option Int64 :=
  jb (mX8_hitsOf_L6 n mw mt a1 a3 mhi mst mmi n (0 : Int64) (0 : Int32)) (fun (y43 : Int64) => (some y43))
theorem dX8_hitsOf_0 : decode cX8_hitsOf 0 = .ok (.lconst 0, 1) := by decide +kernel
theorem dX8_hitsOf_1 : decode cX8_hitsOf 1 = .ok (.lstore 4, 2) := by decide +kernel
theorem dX8_hitsOf_3 : decode cX8_hitsOf 3 = .ok (.iconst 0, 1) := by decide +kernel
theorem dX8_hitsOf_4 : decode cX8_hitsOf 4 = .ok (.istore 6, 2) := by decide +kernel
theorem dX8_hitsOf_6 : decode cX8_hitsOf 6 = .ok (.iload 6, 2) := by decide +kernel
theorem dX8_hitsOf_8 : decode cX8_hitsOf 8 = .ok (.aload_n 0, 1) := by decide +kernel
theorem dX8_hitsOf_9 : decode cX8_hitsOf 9 = .ok (.invokevirtual 57, 3) := by decide +kernel
theorem dX8_hitsOf_12 : decode cX8_hitsOf 12 = .ok (.if_icmp .ge 170, 3) := by decide +kernel
theorem dX8_hitsOf_15 : decode cX8_hitsOf 15 = .ok (.lload_n 1, 1) := by decide +kernel
theorem dX8_hitsOf_16 : decode cX8_hitsOf 16 = .ok (.iload 6, 2) := by decide +kernel
theorem dX8_hitsOf_18 : decode cX8_hitsOf 18 = .ok (.invokestatic 78, 3) := by decide +kernel
theorem dX8_hitsOf_21 : decode cX8_hitsOf 21 = .ok (.istore 7, 2) := by decide +kernel
theorem dX8_hitsOf_23 : decode cX8_hitsOf 23 = .ok (.iconst 0, 1) := by decide +kernel
theorem dX8_hitsOf_24 : decode cX8_hitsOf 24 = .ok (.istore 8, 2) := by decide +kernel
theorem dX8_hitsOf_26 : decode cX8_hitsOf 26 = .ok (.iload 8, 2) := by decide +kernel
theorem dX8_hitsOf_28 : decode cX8_hitsOf 28 = .ok (.bipush 9, 2) := by decide +kernel
theorem dX8_hitsOf_30 : decode cX8_hitsOf 30 = .ok (.if_icmp .ge 128, 3) := by decide +kernel
theorem dX8_hitsOf_33 : decode cX8_hitsOf 33 = .ok (.iload 7, 2) := by decide +kernel
theorem dX8_hitsOf_35 : decode cX8_hitsOf 35 = .ok (.ifCond .eq 123, 3) := by decide +kernel
theorem dX8_hitsOf_38 : decode cX8_hitsOf 38 = .ok (.aload_n 0, 1) := by decide +kernel
theorem dX8_hitsOf_39 : decode cX8_hitsOf 39 = .ok (.iload 6, 2) := by decide +kernel
theorem dX8_hitsOf_41 : decode cX8_hitsOf 41 = .ok (.iload 8, 2) := by decide +kernel
theorem dX8_hitsOf_43 : decode cX8_hitsOf 43 = .ok (.invokevirtual 96, 3) := by decide +kernel
theorem dX8_hitsOf_46 : decode cX8_hitsOf 46 = .ok (.istore 9, 2) := by decide +kernel
theorem dX8_hitsOf_48 : decode cX8_hitsOf 48 = .ok (.iload 9, 2) := by decide +kernel
theorem dX8_hitsOf_50 : decode cX8_hitsOf 50 = .ok (.bipush (-9), 2) := by decide +kernel
theorem dX8_hitsOf_52 : decode cX8_hitsOf 52 = .ok (.if_icmp .eq 16, 3) := by decide +kernel
theorem dX8_hitsOf_55 : decode cX8_hitsOf 55 = .ok (.lload_n 1, 1) := by decide +kernel
theorem dX8_hitsOf_56 : decode cX8_hitsOf 56 = .ok (.iload 9, 2) := by decide +kernel
theorem dX8_hitsOf_58 : decode cX8_hitsOf 58 = .ok (.invokestatic 78, 3) := by decide +kernel
theorem dX8_hitsOf_61 : decode cX8_hitsOf 61 = .ok (.ifCond .eq 7, 3) := by decide +kernel
theorem dX8_hitsOf_64 : decode cX8_hitsOf 64 = .ok (.iconst 1, 1) := by decide +kernel
theorem dX8_hitsOf_65 : decode cX8_hitsOf 65 = .ok (.goto 4, 3) := by decide +kernel
theorem dX8_hitsOf_68 : decode cX8_hitsOf 68 = .ok (.iconst 0, 1) := by decide +kernel
theorem dX8_hitsOf_69 : decode cX8_hitsOf 69 = .ok (.istore 10, 2) := by decide +kernel
theorem dX8_hitsOf_71 : decode cX8_hitsOf 71 = .ok (.aload_n 0, 1) := by decide +kernel
theorem dX8_hitsOf_72 : decode cX8_hitsOf 72 = .ok (.getfield 20, 3) := by decide +kernel
theorem dX8_hitsOf_75 : decode cX8_hitsOf 75 = .ok (.aload_n 0, 1) := by decide +kernel
theorem dX8_hitsOf_76 : decode cX8_hitsOf 76 = .ok (.getfield 42, 3) := by decide +kernel
theorem dX8_hitsOf_79 : decode cX8_hitsOf 79 = .ok (.iload_n 3, 1) := by decide +kernel
theorem dX8_hitsOf_80 : decode cX8_hitsOf 80 = .ok (.iaload, 1) := by decide +kernel
theorem dX8_hitsOf_81 : decode cX8_hitsOf 81 = .ok (.iaload, 1) := by decide +kernel
theorem dX8_hitsOf_82 : decode cX8_hitsOf 82 = .ok (.iload 8, 2) := by decide +kernel
theorem dX8_hitsOf_84 : decode cX8_hitsOf 84 = .ok (.ishr, 1) := by decide +kernel
theorem dX8_hitsOf_85 : decode cX8_hitsOf 85 = .ok (.iconst 1, 1) := by decide +kernel
theorem dX8_hitsOf_86 : decode cX8_hitsOf 86 = .ok (.iand, 1) := by decide +kernel
theorem dX8_hitsOf_87 : decode cX8_hitsOf 87 = .ok (.iconst 1, 1) := by decide +kernel
theorem dX8_hitsOf_88 : decode cX8_hitsOf 88 = .ok (.if_icmp .ne 7, 3) := by decide +kernel
theorem dX8_hitsOf_91 : decode cX8_hitsOf 91 = .ok (.iconst 1, 1) := by decide +kernel
theorem dX8_hitsOf_92 : decode cX8_hitsOf 92 = .ok (.goto 4, 3) := by decide +kernel
theorem dX8_hitsOf_95 : decode cX8_hitsOf 95 = .ok (.iconst 0, 1) := by decide +kernel
theorem dX8_hitsOf_96 : decode cX8_hitsOf 96 = .ok (.istore 11, 2) := by decide +kernel
theorem dX8_hitsOf_98 : decode cX8_hitsOf 98 = .ok (.aload_n 0, 1) := by decide +kernel
theorem dX8_hitsOf_99 : decode cX8_hitsOf 99 = .ok (.getfield 20, 3) := by decide +kernel
theorem dX8_hitsOf_102 : decode cX8_hitsOf 102 = .ok (.aload_n 0, 1) := by decide +kernel
theorem dX8_hitsOf_103 : decode cX8_hitsOf 103 = .ok (.getfield 45, 3) := by decide +kernel
theorem dX8_hitsOf_106 : decode cX8_hitsOf 106 = .ok (.iload_n 3, 1) := by decide +kernel
theorem dX8_hitsOf_107 : decode cX8_hitsOf 107 = .ok (.iaload, 1) := by decide +kernel
theorem dX8_hitsOf_108 : decode cX8_hitsOf 108 = .ok (.iaload, 1) := by decide +kernel
theorem dX8_hitsOf_109 : decode cX8_hitsOf 109 = .ok (.iload 8, 2) := by decide +kernel
theorem dX8_hitsOf_111 : decode cX8_hitsOf 111 = .ok (.ishr, 1) := by decide +kernel
theorem dX8_hitsOf_112 : decode cX8_hitsOf 112 = .ok (.iconst 1, 1) := by decide +kernel
theorem dX8_hitsOf_113 : decode cX8_hitsOf 113 = .ok (.iand, 1) := by decide +kernel
theorem dX8_hitsOf_114 : decode cX8_hitsOf 114 = .ok (.iconst 1, 1) := by decide +kernel
theorem dX8_hitsOf_115 : decode cX8_hitsOf 115 = .ok (.if_icmp .ne 7, 3) := by decide +kernel
theorem dX8_hitsOf_118 : decode cX8_hitsOf 118 = .ok (.iconst 1, 1) := by decide +kernel
theorem dX8_hitsOf_119 : decode cX8_hitsOf 119 = .ok (.goto 4, 3) := by decide +kernel
theorem dX8_hitsOf_122 : decode cX8_hitsOf 122 = .ok (.iconst 0, 1) := by decide +kernel
theorem dX8_hitsOf_123 : decode cX8_hitsOf 123 = .ok (.istore 12, 2) := by decide +kernel
theorem dX8_hitsOf_125 : decode cX8_hitsOf 125 = .ok (.iload 11, 2) := by decide +kernel
theorem dX8_hitsOf_127 : decode cX8_hitsOf 127 = .ok (.ifCond .eq 8, 3) := by decide +kernel
theorem dX8_hitsOf_130 : decode cX8_hitsOf 130 = .ok (.iload 10, 2) := by decide +kernel
theorem dX8_hitsOf_132 : decode cX8_hitsOf 132 = .ok (.ifCond .eq 17, 3) := by decide +kernel
theorem dX8_hitsOf_135 : decode cX8_hitsOf 135 = .ok (.iload 12, 2) := by decide +kernel
theorem dX8_hitsOf_137 : decode cX8_hitsOf 137 = .ok (.ifCond .eq 8, 3) := by decide +kernel
theorem dX8_hitsOf_140 : decode cX8_hitsOf 140 = .ok (.iload 10, 2) := by decide +kernel
theorem dX8_hitsOf_142 : decode cX8_hitsOf 142 = .ok (.ifCond .ne 7, 3) := by decide +kernel
theorem dX8_hitsOf_145 : decode cX8_hitsOf 145 = .ok (.iconst 1, 1) := by decide +kernel
theorem dX8_hitsOf_146 : decode cX8_hitsOf 146 = .ok (.goto 4, 3) := by decide +kernel
theorem dX8_hitsOf_149 : decode cX8_hitsOf 149 = .ok (.iconst 0, 1) := by decide +kernel
theorem dX8_hitsOf_150 : decode cX8_hitsOf 150 = .ok (.istore 7, 2) := by decide +kernel
theorem dX8_hitsOf_152 : decode cX8_hitsOf 152 = .ok (.iinc 8 1, 3) := by decide +kernel
theorem dX8_hitsOf_155 : decode cX8_hitsOf 155 = .ok (.goto (-129), 3) := by decide +kernel
theorem dX8_hitsOf_158 : decode cX8_hitsOf 158 = .ok (.lload 4, 2) := by decide +kernel
theorem dX8_hitsOf_160 : decode cX8_hitsOf 160 = .ok (.iload 7, 2) := by decide +kernel
theorem dX8_hitsOf_162 : decode cX8_hitsOf 162 = .ok (.ifCond .eq 10, 3) := by decide +kernel
theorem dX8_hitsOf_165 : decode cX8_hitsOf 165 = .ok (.lconst 1, 1) := by decide +kernel
theorem dX8_hitsOf_166 : decode cX8_hitsOf 166 = .ok (.iload 6, 2) := by decide +kernel
theorem dX8_hitsOf_168 : decode cX8_hitsOf 168 = .ok (.lshl, 1) := by decide +kernel
theorem dX8_hitsOf_169 : decode cX8_hitsOf 169 = .ok (.goto 4, 3) := by decide +kernel
theorem dX8_hitsOf_172 : decode cX8_hitsOf 172 = .ok (.lconst 0, 1) := by decide +kernel
theorem dX8_hitsOf_173 : decode cX8_hitsOf 173 = .ok (.lor, 1) := by decide +kernel
theorem dX8_hitsOf_174 : decode cX8_hitsOf 174 = .ok (.lstore 4, 2) := by decide +kernel
theorem dX8_hitsOf_176 : decode cX8_hitsOf 176 = .ok (.iinc 6 1, 3) := by decide +kernel
theorem dX8_hitsOf_179 : decode cX8_hitsOf 179 = .ok (.goto (-173), 3) := by decide +kernel
theorem dX8_hitsOf_182 : decode cX8_hitsOf 182 = .ok (.lload 4, 2) := by decide +kernel
theorem dX8_hitsOf_184 : decode cX8_hitsOf 184 = .ok (.lreturn, 1) := by decide +kernel
set_option maxHeartbeats 4000000 in
set_option maxRecDepth 100000 in
theorem wX8_hitsOf_L26 {n : Nat} {v1 : Int64} {v3 : Int32} {v4 : Int64} {v6 : Int32} (hx : p.tables.exec = Jvm.exec) (hb : c.code = cX8_hitsOf) (hml : c.maxLocals = 13) (hown : s.vm.findClass RX8 = some m.cls) (hts : ∀ w ∈ tw, w.before args s = true) (hK : va_K D vwCl [(cI, .int), (cJ, .long)] s) (hP : va_P D vwCl (wdM cJ cI oM oM1 oM2 oM3 oM4 oM5 oM6 oM7 oM8 oM9 oM10 oM11 mw mt mrim mjn mhm mpn mbm mgm mpi mst mam mac mro mbe mhi mmi mgr mtr mle) H) (hR : 2 ≤ R.frames ∧ 49 ≤ R.locals ∧ cells ≤ R.cells ∧ slots ≤ R.slots) : ∀ (k : Nat) (v7 : Int32) (v8 : Int32) (x7 : Int32), mX8_hitsOf_L26 n mw mt v6 v1 v3 mhi mst mmi k v7 v8 = some (x7) → ∀ ls : Array Slot, lv_has ls 13 [(0, .ref oM), (1, .long v1), (3, .int v3), (4, .long v4), (6, .int v6), (7, .int v7), (8, .int v8)] → (∀ ls : Array Slot, lv_has ls 13 [(7, .int x7), (0, .ref oM), (1, .long v1), (3, .int v3), (4, .long v4), (6, .int v6)] → W p l e R s m args below meth c H locs cells slots Q (F0 m 158 ls [])) → W p l e R s m args below meth c H locs cells slots Q (F0 m 26 ls []) := by
  intro k
  induction k with
  | zero => intro v7 v8 x7 hm; rw [mX8_hitsOf_L26] at hm; cases hm
  | succ k ih =>
    intro v7 v8 x7 hm ls hl K0
    rw [mX8_hitsOf_L26] at hm
    refine lv_iload hx hb dX8_hitsOf_26 (lv_at hl 6 rfl) ?_
    refine lv_bipush (v := (9 : Int32)) hx hb dX8_hitsOf_28 (by decide) ?_
    refine lv_icmp_ge (tgt := 158) hx hb dX8_hitsOf_30 (by decide) (fun c6 => ?_) (fun c6 => ?_)
    · rw [if_pos c6] at hm
      have hm := Option.some.inj hm
      have e9 : x7 = v7 := (congrArg (fun q => q) hm).symm
      rw [e9] at K0
      exact K0 ls (lv_sub hl [5, 0, 1, 2, 3, 4] rfl)
    · rw [if_neg c6] at hm
      refine lv_iload hx hb dX8_hitsOf_33 (lv_at hl 5 rfl) ?_
      refine lv_if_eq (tgt := 158) hx hb dX8_hitsOf_35 (by decide) (fun c7 => ?_) (fun c7 => ?_)
      · rw [if_pos c7] at hm
        have hm := Option.some.inj hm
        have e9 : x7 = v7 := (congrArg (fun q => q) hm).symm
        rw [e9] at K0
        exact K0 ls (lv_sub hl [5, 0, 1, 2, 3, 4] rfl)
      · rw [if_neg c7] at hm
        refine lv_aload_n hx hb dX8_hitsOf_38 rfl (lv_at hl 0 rfl) ?_
        refine lv_iload hx hb dX8_hitsOf_39 (lv_at hl 4 rfl) ?_
        refine lv_iload hx hb dX8_hitsOf_41 (lv_at hl 6 rfl) ?_
        obtain ⟨r8, h9, hm⟩ := jb_out hm
        refine kX8_stepFrom ⟨hx, hb, hml, hown, hts⟩ qw_82 hP hK h9 hl.1 ⟨Nat.le_trans (by decide) hR.1, Nat.le_trans (by decide) hR.2.1, hR.2.2⟩ (Nat.le_of_ble_eq_true rfl) dX8_hitsOf_43 ?_
        refine lv_istore (lv' := [(9, .int r8), (0, .ref oM), (1, .long v1), (3, .int v3), (4, .long v4), (6, .int v6), (7, .int v7), (8, .int v8)]) hx hb dX8_hitsOf_46 hl (by decide) rfl (fun ls hl => ?_)
        refine lv_iload hx hb dX8_hitsOf_48 (lv_at hl 0 rfl) ?_
        refine lv_bipush (v := (-9 : Int32)) hx hb dX8_hitsOf_50 (by decide) ?_
        obtain ⟨j10, hi11, hm⟩ := jl_out hm
        have key12 : ∀ (ls : Array Slot), lv_has ls 13 [(0, .ref oM), (1, .long v1), (3, .int v3), (4, .long v4), (6, .int v6), (8, .int v8)] → W p l e R s m args below meth c H locs cells slots Q (F0 m 69 ls [.int j10]) := by
          intro ls hl
          refine lv_istore (lv' := [(10, .int j10), (0, .ref oM), (1, .long v1), (3, .int v3), (4, .long v4), (6, .int v6), (8, .int v8)]) hx hb dX8_hitsOf_69 hl (by decide) rfl (fun ls hl => ?_)
          refine lv_aload_n hx hb dX8_hitsOf_71 rfl (lv_at hl 1 rfl) ?_
          refine va_get (D := D) (ci := 8) (v := .ref oM2) (C := RX8) (T := TX8) (N := 19) hx hb hts tnX8 hown hK hP 0 rfl rfl 3 (by decide) (hts _ qw_93) (fun _ h9 => h9) rfl dX8_hitsOf_72 ?_
          refine lv_aload_n hx hb dX8_hitsOf_75 rfl (lv_at hl 1 rfl) ?_
          refine va_get (D := D) (ci := 8) (v := .ref oM7) (C := RX8) (T := TX8) (N := 19) hx hb hts tnX8 hown hK hP 0 rfl rfl 12 (by decide) (hts _ qw_151) (fun _ h9 => h9) rfl dX8_hitsOf_76 ?_
          refine lv_iload_n hx hb dX8_hitsOf_79 rfl (lv_at hl 3 rfl) ?_
          obtain ⟨g16, hm⟩ := gd_out hm
          refine va_iald hx hb hK hP 7 0 rfl rfl g16 dX8_hitsOf_80 ?_
          obtain ⟨g17, hm⟩ := gd_out hm
          refine va_iald hx hb hK hP 2 0 rfl rfl g17 dX8_hitsOf_81 ?_
          refine lv_iload hx hb dX8_hitsOf_82 (lv_at hl 6 rfl) ?_
          refine lv_ishr hx hb dX8_hitsOf_84 ?_
          refine lv_iconst (v := (1 : Int32)) hx hb dX8_hitsOf_85 (by decide) ?_
          refine lv_iand hx hb dX8_hitsOf_86 ?_
          refine lv_iconst (v := (1 : Int32)) hx hb dX8_hitsOf_87 (by decide) ?_
          obtain ⟨j18, hi19, hm⟩ := jl_out hm
          have key20 : ∀ (ls : Array Slot), lv_has ls 13 [(10, .int j10), (0, .ref oM), (1, .long v1), (3, .int v3), (4, .long v4), (6, .int v6), (8, .int v8)] → W p l e R s m args below meth c H locs cells slots Q (F0 m 96 ls [.int j18]) := by
            intro ls hl
            refine lv_istore (lv' := [(11, .int j18), (10, .int j10), (0, .ref oM), (1, .long v1), (3, .int v3), (4, .long v4), (6, .int v6), (8, .int v8)]) hx hb dX8_hitsOf_96 hl (by decide) rfl (fun ls hl => ?_)
            refine lv_aload_n hx hb dX8_hitsOf_98 rfl (lv_at hl 2 rfl) ?_
            refine va_get (D := D) (ci := 8) (v := .ref oM2) (C := RX8) (T := TX8) (N := 19) hx hb hts tnX8 hown hK hP 0 rfl rfl 3 (by decide) (hts _ qw_93) (fun _ h9 => h9) rfl dX8_hitsOf_99 ?_
            refine lv_aload_n hx hb dX8_hitsOf_102 rfl (lv_at hl 2 rfl) ?_
            refine va_get (D := D) (ci := 8) (v := .ref oM8) (C := RX8) (T := TX8) (N := 19) hx hb hts tnX8 hown hK hP 0 rfl rfl 13 (by decide) (hts _ qw_152) (fun _ h9 => h9) rfl dX8_hitsOf_103 ?_
            refine lv_iload_n hx hb dX8_hitsOf_106 rfl (lv_at hl 4 rfl) ?_
            obtain ⟨g22, hm⟩ := gd_out hm
            refine va_iald hx hb hK hP 8 0 rfl rfl g22 dX8_hitsOf_107 ?_
            obtain ⟨g23, hm⟩ := gd_out hm
            refine va_iald hx hb hK hP 2 0 rfl rfl g23 dX8_hitsOf_108 ?_
            refine lv_iload hx hb dX8_hitsOf_109 (lv_at hl 7 rfl) ?_
            refine lv_ishr hx hb dX8_hitsOf_111 ?_
            refine lv_iconst (v := (1 : Int32)) hx hb dX8_hitsOf_112 (by decide) ?_
            refine lv_iand hx hb dX8_hitsOf_113 ?_
            refine lv_iconst (v := (1 : Int32)) hx hb dX8_hitsOf_114 (by decide) ?_
            obtain ⟨j24, hi25, hm⟩ := jl_out hm
            have key26 : ∀ (ls : Array Slot), lv_has ls 13 [(11, .int j18), (10, .int j10), (0, .ref oM), (1, .long v1), (3, .int v3), (4, .long v4), (6, .int v6), (8, .int v8)] → W p l e R s m args below meth c H locs cells slots Q (F0 m 123 ls [.int j24]) := by
              intro ls hl
              refine lv_istore (lv' := [(12, .int j24), (11, .int j18), (10, .int j10), (0, .ref oM), (1, .long v1), (3, .int v3), (4, .long v4), (6, .int v6), (8, .int v8)]) hx hb dX8_hitsOf_123 hl (by decide) rfl (fun ls hl => ?_)
              refine lv_iload hx hb dX8_hitsOf_125 (lv_at hl 1 rfl) ?_
              obtain ⟨j28, hi29, hm⟩ := jl_out hm
              have key30 : ∀ (ls : Array Slot), lv_has ls 13 [(0, .ref oM), (1, .long v1), (3, .int v3), (4, .long v4), (6, .int v6), (8, .int v8)] → W p l e R s m args below meth c H locs cells slots Q (F0 m 150 ls [.int j28]) := by
                intro ls hl
                refine lv_istore (lv' := [(7, .int j28), (0, .ref oM), (1, .long v1), (3, .int v3), (4, .long v4), (6, .int v6), (8, .int v8)]) hx hb dX8_hitsOf_150 hl (by decide) rfl (fun ls hl => ?_)
                refine lv_iinc (v := (v8 + (1 : Int32))) (lv' := [(8, .int (v8 + (1 : Int32))), (7, .int j28), (0, .ref oM), (1, .long v1), (3, .int v3), (4, .long v4), (6, .int v6)]) hx hb dX8_hitsOf_152 hl (k := 6) rfl (by rfl) (by decide) rfl (fun ls hl => ?_)
                refine lv_goto (tgt := 26) hx hb dX8_hitsOf_155 (by decide) ?_
                exact ih _ _ _ hm ls (lv_sub hl [2, 3, 4, 5, 6, 1, 0] rfl) K0
              refine lv_if_eq (tgt := 135) hx hb dX8_hitsOf_127 (by decide) (fun c31 => ?_) (fun c31 => ?_)
              · rw [if_pos c31] at hi29
                refine lv_iload hx hb dX8_hitsOf_135 (lv_at hl 0 rfl) ?_
                refine lv_if_eq (tgt := 145) hx hb dX8_hitsOf_137 (by decide) (fun c32 => ?_) (fun c32 => ?_)
                · rw [if_pos c32] at hi29
                  refine lv_iconst (v := (1 : Int32)) hx hb dX8_hitsOf_145 (by decide) ?_
                  refine lv_goto (tgt := 150) hx hb dX8_hitsOf_146 (by decide) ?_
                  rw [hi29] at key30
                  exact key30 ls (lv_sub hl [3, 4, 5, 6, 7, 8] rfl)
                · rw [if_neg c32] at hi29
                  refine lv_iload hx hb dX8_hitsOf_140 (lv_at hl 2 rfl) ?_
                  refine lv_if_ne (tgt := 149) hx hb dX8_hitsOf_142 (by decide) (fun c33 => ?_) (fun c33 => ?_)
                  · rw [if_neg c33] at hi29
                    refine lv_iconst (v := (0 : Int32)) hx hb dX8_hitsOf_149 (by decide) ?_
                    rw [hi29] at key30
                    exact key30 ls (lv_sub hl [3, 4, 5, 6, 7, 8] rfl)
                  · rw [if_pos c33] at hi29
                    refine lv_iconst (v := (1 : Int32)) hx hb dX8_hitsOf_145 (by decide) ?_
                    refine lv_goto (tgt := 150) hx hb dX8_hitsOf_146 (by decide) ?_
                    rw [hi29] at key30
                    exact key30 ls (lv_sub hl [3, 4, 5, 6, 7, 8] rfl)
              · rw [if_neg c31] at hi29
                refine lv_iload hx hb dX8_hitsOf_130 (lv_at hl 2 rfl) ?_
                refine lv_if_eq (tgt := 149) hx hb dX8_hitsOf_132 (by decide) (fun c34 => ?_) (fun c34 => ?_)
                · rw [if_pos c34] at hi29
                  refine lv_iconst (v := (0 : Int32)) hx hb dX8_hitsOf_149 (by decide) ?_
                  rw [hi29] at key30
                  exact key30 ls (lv_sub hl [3, 4, 5, 6, 7, 8] rfl)
                · rw [if_neg c34] at hi29
                  refine lv_iload hx hb dX8_hitsOf_135 (lv_at hl 0 rfl) ?_
                  refine lv_if_eq (tgt := 145) hx hb dX8_hitsOf_137 (by decide) (fun c35 => ?_) (fun c35 => ?_)
                  · rw [if_pos c35] at hi29
                    refine lv_iconst (v := (1 : Int32)) hx hb dX8_hitsOf_145 (by decide) ?_
                    refine lv_goto (tgt := 150) hx hb dX8_hitsOf_146 (by decide) ?_
                    rw [hi29] at key30
                    exact key30 ls (lv_sub hl [3, 4, 5, 6, 7, 8] rfl)
                  · rw [if_neg c35] at hi29
                    refine lv_iload hx hb dX8_hitsOf_140 (lv_at hl 2 rfl) ?_
                    refine lv_if_ne (tgt := 149) hx hb dX8_hitsOf_142 (by decide) (fun c36 => ?_) (fun c36 => ?_)
                    · rw [if_neg c36] at hi29
                      refine lv_iconst (v := (0 : Int32)) hx hb dX8_hitsOf_149 (by decide) ?_
                      rw [hi29] at key30
                      exact key30 ls (lv_sub hl [3, 4, 5, 6, 7, 8] rfl)
                    · rw [if_pos c36] at hi29
                      refine lv_iconst (v := (1 : Int32)) hx hb dX8_hitsOf_145 (by decide) ?_
                      refine lv_goto (tgt := 150) hx hb dX8_hitsOf_146 (by decide) ?_
                      rw [hi29] at key30
                      exact key30 ls (lv_sub hl [3, 4, 5, 6, 7, 8] rfl)
            refine lv_icmp_ne (tgt := 122) hx hb dX8_hitsOf_115 (by decide) (fun c27 => ?_) (fun c27 => ?_)
            · rw [if_neg c27] at hi25
              refine lv_iconst (v := (0 : Int32)) hx hb dX8_hitsOf_122 (by decide) ?_
              rw [hi25] at key26
              exact key26 ls (lv_sub hl [0, 1, 2, 3, 4, 5, 6, 7] rfl)
            · rw [if_pos c27] at hi25
              refine lv_iconst (v := (1 : Int32)) hx hb dX8_hitsOf_118 (by decide) ?_
              refine lv_goto (tgt := 123) hx hb dX8_hitsOf_119 (by decide) ?_
              rw [hi25] at key26
              exact key26 ls (lv_sub hl [0, 1, 2, 3, 4, 5, 6, 7] rfl)
          refine lv_icmp_ne (tgt := 95) hx hb dX8_hitsOf_88 (by decide) (fun c21 => ?_) (fun c21 => ?_)
          · rw [if_neg c21] at hi19
            refine lv_iconst (v := (0 : Int32)) hx hb dX8_hitsOf_95 (by decide) ?_
            rw [hi19] at key20
            exact key20 ls (lv_sub hl [0, 1, 2, 3, 4, 5, 6] rfl)
          · rw [if_pos c21] at hi19
            refine lv_iconst (v := (1 : Int32)) hx hb dX8_hitsOf_91 (by decide) ?_
            refine lv_goto (tgt := 96) hx hb dX8_hitsOf_92 (by decide) ?_
            rw [hi19] at key20
            exact key20 ls (lv_sub hl [0, 1, 2, 3, 4, 5, 6] rfl)
        refine lv_icmp_eq (tgt := 68) hx hb dX8_hitsOf_52 (by decide) (fun c13 => ?_) (fun c13 => ?_)
        · rw [if_pos c13] at hi11
          refine lv_iconst (v := (0 : Int32)) hx hb dX8_hitsOf_68 (by decide) ?_
          rw [hi11] at key12
          exact key12 ls (lv_sub hl [1, 2, 3, 4, 5, 7] rfl)
        · rw [if_neg c13] at hi11
          refine lv_lload_n hx hb dX8_hitsOf_55 rfl (lv_at hl 2 rfl) ?_
          refine lv_iload hx hb dX8_hitsOf_56 (lv_at hl 0 rfl) ?_
          refine kX8_has ⟨hx, hb, hml, hown, hts⟩ qw_81 hl.1 ⟨Nat.le_trans (by decide) hR.1, Nat.le_trans (by decide) hR.2.1, hR.2.2⟩ (Nat.le_of_ble_eq_true rfl) dX8_hitsOf_58 ?_
          refine lv_if_eq (tgt := 68) hx hb dX8_hitsOf_61 (by decide) (fun c15 => ?_) (fun c15 => ?_)
          · rw [if_pos c15] at hi11
            refine lv_iconst (v := (0 : Int32)) hx hb dX8_hitsOf_68 (by decide) ?_
            rw [hi11] at key12
            exact key12 ls (lv_sub hl [1, 2, 3, 4, 5, 7] rfl)
          · rw [if_neg c15] at hi11
            refine lv_iconst (v := (1 : Int32)) hx hb dX8_hitsOf_64 (by decide) ?_
            refine lv_goto (tgt := 69) hx hb dX8_hitsOf_65 (by decide) ?_
            rw [hi11] at key12
            exact key12 ls (lv_sub hl [1, 2, 3, 4, 5, 7] rfl)
set_option maxHeartbeats 4000000 in
set_option maxRecDepth 100000 in
theorem wX8_hitsOf_L6 {n : Nat} {v1 : Int64} {v3 : Int32} (hx : p.tables.exec = Jvm.exec) (hb : c.code = cX8_hitsOf) (hml : c.maxLocals = 13) (hown : s.vm.findClass RX8 = some m.cls) (hts : ∀ w ∈ tw, w.before args s = true) (hK : va_K D vwCl [(cI, .int), (cJ, .long)] s) (hP : va_P D vwCl (wdM cJ cI oM oM1 oM2 oM3 oM4 oM5 oM6 oM7 oM8 oM9 oM10 oM11 mw mt mrim mjn mhm mpn mbm mgm mpi mst mam mac mro mbe mhi mmi mgr mtr mle) H) (hR : 2 ≤ R.frames ∧ 49 ≤ R.locals ∧ cells ≤ R.cells ∧ slots ≤ R.slots) : ∀ (k : Nat) (v4 : Int64) (v6 : Int32) (x4 : Int64), mX8_hitsOf_L6 n mw mt v1 v3 mhi mst mmi k v4 v6 = some (x4) → ∀ ls : Array Slot, lv_has ls 13 [(0, .ref oM), (1, .long v1), (3, .int v3), (4, .long v4), (6, .int v6)] → (∀ ls : Array Slot, lv_has ls 13 [(4, .long x4)] → W p l e R s m args below meth c H locs cells slots Q (F0 m 182 ls [])) → W p l e R s m args below meth c H locs cells slots Q (F0 m 6 ls []) := by
  intro k
  induction k with
  | zero => intro v4 v6 x4 hm; rw [mX8_hitsOf_L6] at hm; cases hm
  | succ k ih =>
    intro v4 v6 x4 hm ls hl K0
    rw [mX8_hitsOf_L6] at hm
    refine lv_iload hx hb dX8_hitsOf_6 (lv_at hl 4 rfl) ?_
    refine lv_aload_n hx hb dX8_hitsOf_8 rfl (lv_at hl 0 rfl) ?_
    refine kX8_cells ⟨hx, hb, hml, hown, hts⟩ qw_60 hP hK hl.1 ⟨Nat.le_trans (by decide) hR.1, Nat.le_trans (by decide) hR.2.1, hR.2.2⟩ (Nat.le_of_ble_eq_true rfl) dX8_hitsOf_9 ?_
    refine lv_icmp_ge (tgt := 182) hx hb dX8_hitsOf_12 (by decide) (fun c3 => ?_) (fun c3 => ?_)
    · rw [if_pos c3] at hm
      have hm := Option.some.inj hm
      have e9 : x4 = v4 := (congrArg (fun q => q) hm).symm
      rw [e9] at K0
      exact K0 ls (lv_sub hl [3] rfl)
    · rw [if_neg c3] at hm
      refine lv_lload_n hx hb dX8_hitsOf_15 rfl (lv_at hl 1 rfl) ?_
      refine lv_iload hx hb dX8_hitsOf_16 (lv_at hl 4 rfl) ?_
      refine kX8_has ⟨hx, hb, hml, hown, hts⟩ qw_81 hl.1 ⟨Nat.le_trans (by decide) hR.1, Nat.le_trans (by decide) hR.2.1, hR.2.2⟩ (Nat.le_of_ble_eq_true rfl) dX8_hitsOf_18 ?_
      refine lv_istore (lv' := [(7, .int (mX8_has v1 v6)), (0, .ref oM), (1, .long v1), (3, .int v3), (4, .long v4), (6, .int v6)]) hx hb dX8_hitsOf_21 hl (by decide) rfl (fun ls hl => ?_)
      refine lv_iconst (v := (0 : Int32)) hx hb dX8_hitsOf_23 (by decide) ?_
      refine lv_istore (lv' := [(8, .int (0 : Int32)), (7, .int (mX8_has v1 v6)), (0, .ref oM), (1, .long v1), (3, .int v3), (4, .long v4), (6, .int v6)]) hx hb dX8_hitsOf_24 hl (by decide) rfl (fun ls hl => ?_)
      obtain ⟨y37, h38, hm⟩ := jb_out hm
      refine wX8_hitsOf_L26 hx hb hml hown hts hK hP hR n _ _ _  h38 ls (lv_sub hl [2, 3, 4, 5, 6, 1, 0] rfl) (fun ls hl => ?_)
      refine lv_lload hx hb dX8_hitsOf_158 (lv_at hl 4 rfl) ?_
      refine lv_iload hx hb dX8_hitsOf_160 (lv_at hl 0 rfl) ?_
      obtain ⟨j39, hi40, hm⟩ := jl_out hm
      have key41 : ∀ (ls : Array Slot), lv_has ls 13 [(0, .ref oM), (1, .long v1), (3, .int v3), (6, .int v6)] → W p l e R s m args below meth c H locs cells slots Q (F0 m 173 ls [.long j39, .long v4]) := by
        intro ls hl
        refine lv_lor hx hb dX8_hitsOf_173 ?_
        refine lv_lstore (lv' := [(4, .long (v4 ||| j39)), (0, .ref oM), (1, .long v1), (3, .int v3), (6, .int v6)]) hx hb dX8_hitsOf_174 hl (by decide) rfl (fun ls hl => ?_)
        refine lv_iinc (v := (v6 + (1 : Int32))) (lv' := [(6, .int (v6 + (1 : Int32))), (4, .long (v4 ||| j39)), (0, .ref oM), (1, .long v1), (3, .int v3)]) hx hb dX8_hitsOf_176 hl (k := 4) rfl (by rfl) (by decide) rfl (fun ls hl => ?_)
        refine lv_goto (tgt := 6) hx hb dX8_hitsOf_179 (by decide) ?_
        exact ih _ _ _ hm ls (lv_sub hl [2, 3, 4, 1, 0] rfl) K0
      refine lv_if_eq (tgt := 172) hx hb dX8_hitsOf_162 (by decide) (fun c42 => ?_) (fun c42 => ?_)
      · rw [if_pos c42] at hi40
        refine lv_lconst (v := (0 : Int64)) hx hb dX8_hitsOf_172 (by decide) ?_
        rw [hi40] at key41
        exact key41 ls (lv_sub hl [1, 2, 3, 5] rfl)
      · rw [if_neg c42] at hi40
        refine lv_lconst (v := (1 : Int64)) hx hb dX8_hitsOf_165 (by decide) ?_
        refine lv_iload hx hb dX8_hitsOf_166 (lv_at hl 5 rfl) ?_
        refine lv_lshl (v := (jlshl (1 : Int64) v6)) hx hb dX8_hitsOf_168 rfl ?_
        refine lv_goto (tgt := 173) hx hb dX8_hitsOf_169 (by decide) ?_
        rw [hi40] at key41
        exact key41 ls (lv_sub hl [1, 2, 3, 5] rfl)
set_option maxHeartbeats 4000000 in
set_option maxRecDepth 100000 in
theorem bX8_hitsOf {n : Nat} {a1 : Int64} {a3 : Int32} {r : Int64} (hx : p.tables.exec = Jvm.exec) (hb : c.code = cX8_hitsOf) (hml : c.maxLocals = 13) (hown : s.vm.findClass RX8 = some m.cls) (hts : ∀ w ∈ tw, w.before args s = true) (hK : va_K D vwCl [(cI, .int), (cJ, .long)] s) (hP : va_P D vwCl (wdM cJ cI oM oM1 oM2 oM3 oM4 oM5 oM6 oM7 oM8 oM9 oM10 oM11 mw mt mrim mjn mhm mpn mbm mgm mpi mst mam mac mro mbe mhi mmi mgr mtr mle) H) (hR : 2 ≤ R.frames ∧ 49 ≤ R.locals ∧ cells ≤ R.cells ∧ slots ≤ R.slots) (hm : mX8_hitsOf n mw mt mhi mst mmi a1 a3 = some r) (ls : Array Slot) (hl : lv_has ls 13 [(0, .ref oM), (1, .long a1), (3, .int a3)]) (K : ∀ (pc : Nat) (ls : Array Slot), decode cX8_hitsOf pc = .ok (.lreturn, 1) → W p l e R s m args below meth c H locs cells slots Q (F0 m pc ls [.long r])) : W p l e R s m args below meth c H locs cells slots Q (F0 m 0 ls []) := by
  unfold mX8_hitsOf at hm
  refine lv_lconst (v := (0 : Int64)) hx hb dX8_hitsOf_0 (by decide) ?_
  refine lv_lstore (lv' := [(4, .long (0 : Int64)), (0, .ref oM), (1, .long a1), (3, .int a3)]) hx hb dX8_hitsOf_1 hl (by decide) rfl (fun ls hl => ?_)
  refine lv_iconst (v := (0 : Int32)) hx hb dX8_hitsOf_3 (by decide) ?_
  refine lv_istore (lv' := [(6, .int (0 : Int32)), (4, .long (0 : Int64)), (0, .ref oM), (1, .long a1), (3, .int a3)]) hx hb dX8_hitsOf_4 hl (by decide) rfl (fun ls hl => ?_)
  obtain ⟨y43, h44, hm⟩ := jb_out hm
  refine wX8_hitsOf_L6 hx hb hml hown hts hK hP hR n _ _ _  h44 ls (lv_sub hl [2, 3, 4, 1, 0] rfl) (fun ls hl => ?_)
  refine lv_lload hx hb dX8_hitsOf_182 (lv_at hl 0 rfl) ?_
  have hm := Option.some.inj hm
  subst hm
  exact K 184 ls dX8_hitsOf_184
set_option maxHeartbeats 4000000 in
set_option maxRecDepth 100000 in
theorem tX8_hitsOf (l : Launch) {D : va_G} {n : Nat} {a1 : Int64} {a3 : Int32} {r : Int64} (hm : mX8_hitsOf n mw mt mhi mst mmi a1 a3 = some r) : Met l yX8_hitsOf (.code yX8_hitsOf cX8_hitsOf 13 (some .long) :: tw) ({ frames := 2, cells := 0, slots := 0, locals := 49 } : Room) (rdP D [.ref oM, .long a1, .int a3] (wdM cJ cI oM oM1 oM2 oM3 oM4 oM5 oM6 oM7 oM8 oM9 oM10 oM11 mw mt mrim mjn mhm mpn mbm mgm mpi mst mam mac mro mbe mhi mmi mgr mtr mle) [(cI, .int), (cJ, .long)]) (vp_Sl (fun q => q = r)) 0 0 (fun _ => False) := by
  refine Met.ofW (cc := cX8_hitsOf) (maxL := 13) (ret := (some .long)) (by decide) rfl ?_
  intro p e s m args below meth c s₁ B hml hv
  obtain ⟨rfl, hP, hK⟩ := hv
  have hx := B.exec
  have hb := B.bytes
  have hr := B.returns
  have hts : ∀ w ∈ tw, w.before _ s = true := fun w h => atoms_spec (ws := .code yX8_hitsOf cX8_hitsOf 13 (some .long) :: tw) B.pre w (List.mem_cons_of_mem _ h)
  have hown : s.vm.findClass RX8 = some m.cls := findClass_of_methodNamed B.named
  have hlocks := B.notSynchronized
  have hl := lv_entry ([.ref oM, .long a1, .int a3]) (n := 13) (Nat.le_of_ble_eq_true rfl)
  rw [lg_entry_eq]
  generalize (lg_sl ([.ref oM, .long a1, .int a3]) ++ List.replicate (13 - (lg_sl ([.ref oM, .long a1, .int a3])).length) Slot.unset).toArray = ls at hl ⊢
  refine bX8_hitsOf hx hb hml hown hts hK hP ⟨Nat.le_of_ble_eq_true rfl, Nat.le_of_ble_eq_true rfl, Nat.zero_le _, Nat.zero_le _⟩ hm ls hl (fun pc ls hd => ?_)
  exact W.lret hx hb hr (fun t ht hW => ⟨r, rfl, rfl, ht⟩) (fun q h => by cases h) hd
set_option maxHeartbeats 4000000 in
set_option maxRecDepth 100000 in
theorem kX8_hitsOf {own : String} {cc : ByteArray} {nL idx pc : Nat} {ls : Array Slot} {rest : List Value} {n : Nat} {a1 : Int64} {a3 : Int32} {r : Int64} (fx : CallFix p m c cc nL s args tw own) (hq : Cond.methodLink own idx yX8_hitsOf ∈ tw) (hP : va_P D vwCl (wdM cJ cI oM oM1 oM2 oM3 oM4 oM5 oM6 oM7 oM8 oM9 oM10 oM11 mw mt mrim mjn mhm mpn mbm mgm mpi mst mam mac mro mbe mhi mmi mgr mtr mle) H) (hK : va_K D vwCl [(cI, .int), (cJ, .long)] s) (hm : mX8_hitsOf n mw mt mhi mst mmi a1 a3 = some r) (hsz : ls.size = nL) (hR : 3 ≤ R.frames ∧ 81 ≤ R.locals ∧ cells ≤ R.cells ∧ slots ≤ R.slots) (hst : (rest.map fun v => v.category).sum ≤ 8) (hd : decode cc pc = .ok (.invokevirtual idx, 3)) (kk : W p l e R s m args below meth c H locs cells slots Q (F0 m (pc + 3) ls (.long r :: rest))) : W p l e R s m args below meth c H locs cells slots Q (F0 m pc ls (.int a3 :: .long a1 :: .ref oM :: rest)) := by
  exact vp_callSl (va_Run.run (va_runV (As := [.long a1, .int a3]) (rest := rest) fx (tX8_hitsOf l hm) (cwV 2 fx.2.2.2.2 (tw_V hq qw_153 qw_154 qw_53 qw_155) rfl rfl rfl (by decide +kernel) ⟨hR.1, hR.2.1⟩) ⟨rdP_bl, va_recv hK hP (ci := 8) (q0 := 0) rfl rfl, rdP_ok hP hK⟩ rfl rfl hsz rfl (lv_room hst) hd ⟨hR.2.2.1, hR.2.2.2⟩)) (fun r9 hr9 => by first | (rw [hr9]; exact kk) | (rw [hr9.1]; exact kk))
-- X8_hits
def mX8_hits (n : Nat) (mpn : Int32) (mw : Int32) (mt : Int32) (mhi : Nat → Int32) (mst : Nat → Int32) (mmi : Nat → Int32) (mpi : Nat → Int64) (a1 : Int32) (a2 : Int32) : Option Int32 :=
  (if (mX8_isPicture a1) = 0 then (some (-1 : Int32)) else (if (mX8_in ((a2).toInt64) (0 : Int64) (((mpn - (1 : Int32))).toInt64)) = 0 then (some (-1 : Int32)) else gd (ib a1 5) (jb (mX8_hitsOf n mw mt mhi mst mmi (mpi a1.toNatClampNeg) a2) (fun (r6 : Int64) => jb (mX8_many n r6) (fun (r8 : Int32) => (some r8))))))
theorem dX8_hits_0 : decode cX8_hits 0 = .ok (.iload_n 1, 1) := by decide +kernel
theorem dX8_hits_1 : decode cX8_hits 1 = .ok (.invokestatic 71, 3) := by decide +kernel
theorem dX8_hits_4 : decode cX8_hits 4 = .ok (.ifCond .eq 36, 3) := by decide +kernel
theorem dX8_hits_7 : decode cX8_hits 7 = .ok (.iload_n 2, 1) := by decide +kernel
theorem dX8_hits_8 : decode cX8_hits 8 = .ok (.i2l, 1) := by decide +kernel
theorem dX8_hits_9 : decode cX8_hits 9 = .ok (.lconst 0, 1) := by decide +kernel
theorem dX8_hits_10 : decode cX8_hits 10 = .ok (.aload_n 0, 1) := by decide +kernel
theorem dX8_hits_11 : decode cX8_hits 11 = .ok (.getfield 159, 3) := by decide +kernel
theorem dX8_hits_14 : decode cX8_hits 14 = .ok (.iconst 1, 1) := by decide +kernel
theorem dX8_hits_15 : decode cX8_hits 15 = .ok (.isub, 1) := by decide +kernel
theorem dX8_hits_16 : decode cX8_hits 16 = .ok (.i2l, 1) := by decide +kernel
theorem dX8_hits_17 : decode cX8_hits 17 = .ok (.invokestatic 63, 3) := by decide +kernel
theorem dX8_hits_20 : decode cX8_hits 20 = .ok (.ifCond .eq 20, 3) := by decide +kernel
theorem dX8_hits_23 : decode cX8_hits 23 = .ok (.aload_n 0, 1) := by decide +kernel
theorem dX8_hits_24 : decode cX8_hits 24 = .ok (.aload_n 0, 1) := by decide +kernel
theorem dX8_hits_25 : decode cX8_hits 25 = .ok (.getfield 16, 3) := by decide +kernel
theorem dX8_hits_28 : decode cX8_hits 28 = .ok (.iload_n 1, 1) := by decide +kernel
theorem dX8_hits_29 : decode cX8_hits 29 = .ok (.laload, 1) := by decide +kernel
theorem dX8_hits_30 : decode cX8_hits 30 = .ok (.iload_n 2, 1) := by decide +kernel
theorem dX8_hits_31 : decode cX8_hits 31 = .ok (.invokevirtual 162, 3) := by decide +kernel
theorem dX8_hits_34 : decode cX8_hits 34 = .ok (.invokestatic 88, 3) := by decide +kernel
theorem dX8_hits_37 : decode cX8_hits 37 = .ok (.goto 4, 3) := by decide +kernel
theorem dX8_hits_40 : decode cX8_hits 40 = .ok (.iconst (-1), 1) := by decide +kernel
theorem dX8_hits_41 : decode cX8_hits 41 = .ok (.ireturn, 1) := by decide +kernel
set_option maxHeartbeats 4000000 in
set_option maxRecDepth 100000 in
theorem bX8_hits {n : Nat} {a1 : Int32} {a2 : Int32} {r : Int32} (hx : p.tables.exec = Jvm.exec) (hb : c.code = cX8_hits) (hml : c.maxLocals = 3) (hown : s.vm.findClass RX8 = some m.cls) (hts : ∀ w ∈ tw, w.before args s = true) (hK : va_K D vwCl [(cI, .int), (cJ, .long)] s) (hP : va_P D vwCl (wdM cJ cI oM oM1 oM2 oM3 oM4 oM5 oM6 oM7 oM8 oM9 oM10 oM11 mw mt mrim mjn mhm mpn mbm mgm mpi mst mam mac mro mbe mhi mmi mgr mtr mle) H) (hR : 3 ≤ R.frames ∧ 81 ≤ R.locals ∧ cells ≤ R.cells ∧ slots ≤ R.slots) (hm : mX8_hits n mpn mw mt mhi mst mmi mpi a1 a2 = some r) (ls : Array Slot) (hl : lv_has ls 3 [(0, .ref oM), (1, .int a1), (2, .int a2)]) (K : ∀ (pc : Nat) (ls : Array Slot), decode cX8_hits pc = .ok (.ireturn, 1) → W p l e R s m args below meth c H locs cells slots Q (F0 m pc ls [.int r])) : W p l e R s m args below meth c H locs cells slots Q (F0 m 0 ls []) := by
  unfold mX8_hits at hm
  refine lv_iload_n hx hb dX8_hits_0 rfl (lv_at hl 1 rfl) ?_
  refine kX8_isPicture ⟨hx, hb, hml, hown, hts⟩ qw_101 hl.1 ⟨Nat.le_trans (by decide) hR.1, Nat.le_trans (by decide) hR.2.1, hR.2.2⟩ (Nat.le_of_ble_eq_true rfl) dX8_hits_1 ?_
  refine lv_if_eq (tgt := 40) hx hb dX8_hits_4 (by decide) (fun c2 => ?_) (fun c2 => ?_)
  · rw [if_pos c2] at hm
    refine lv_iconst (v := (-1 : Int32)) hx hb dX8_hits_40 (by decide) ?_
    have hm := Option.some.inj hm
    subst hm
    exact K 41 ls dX8_hits_41
  · rw [if_neg c2] at hm
    refine lv_iload_n hx hb dX8_hits_7 rfl (lv_at hl 2 rfl) ?_
    refine lv_i2l (v := ((a2).toInt64)) hx hb dX8_hits_8 rfl ?_
    refine lv_lconst (v := (0 : Int64)) hx hb dX8_hits_9 (by decide) ?_
    refine lv_aload_n hx hb dX8_hits_10 rfl (lv_at hl 0 rfl) ?_
    refine va_get (D := D) (ci := 8) (v := .int mpn) (C := RX8) (T := TX8) (N := 19) hx hb hts tnX8 hown hK hP 0 rfl rfl 11 (by decide) (hts _ qw_156) (fun _ h9 => h9) rfl dX8_hits_11 ?_
    refine lv_iconst (v := (1 : Int32)) hx hb dX8_hits_14 (by decide) ?_
    refine lv_isub hx hb dX8_hits_15 ?_
    refine lv_i2l (v := (((mpn - (1 : Int32))).toInt64)) hx hb dX8_hits_16 rfl ?_
    refine kX8_in ⟨hx, hb, hml, hown, hts⟩ qw_65 hl.1 ⟨Nat.le_trans (by decide) hR.1, Nat.le_trans (by decide) hR.2.1, hR.2.2⟩ (Nat.le_of_ble_eq_true rfl) dX8_hits_17 ?_
    refine lv_if_eq (tgt := 40) hx hb dX8_hits_20 (by decide) (fun c4 => ?_) (fun c4 => ?_)
    · rw [if_pos c4] at hm
      refine lv_iconst (v := (-1 : Int32)) hx hb dX8_hits_40 (by decide) ?_
      have hm := Option.some.inj hm
      subst hm
      exact K 41 ls dX8_hits_41
    · rw [if_neg c4] at hm
      refine lv_aload_n hx hb dX8_hits_23 rfl (lv_at hl 0 rfl) ?_
      refine lv_aload_n hx hb dX8_hits_24 rfl (lv_at hl 0 rfl) ?_
      refine va_get (D := D) (ci := 8) (v := .ref oM1) (C := RX8) (T := TX8) (N := 19) hx hb hts tnX8 hown hK hP 0 rfl rfl 2 (by decide) (hts _ qw_103) (fun _ h9 => h9) rfl dX8_hits_25 ?_
      refine lv_iload_n hx hb dX8_hits_28 rfl (lv_at hl 1 rfl) ?_
      obtain ⟨g5, hm⟩ := gd_out hm
      refine va_lald hx hb hK hP 1 1 rfl rfl g5 dX8_hits_29 ?_
      refine lv_iload_n hx hb dX8_hits_30 rfl (lv_at hl 2 rfl) ?_
      obtain ⟨r6, h7, hm⟩ := jb_out hm
      refine kX8_hitsOf ⟨hx, hb, hml, hown, hts⟩ qw_157 hP hK h7 hl.1 ⟨Nat.le_trans (by decide) hR.1, Nat.le_trans (by decide) hR.2.1, hR.2.2⟩ (Nat.le_of_ble_eq_true rfl) dX8_hits_31 ?_
      obtain ⟨r8, h9, hm⟩ := jb_out hm
      refine kX8_many ⟨hx, hb, hml, hown, hts⟩ qw_112 h9 hl.1 ⟨Nat.le_trans (by decide) hR.1, Nat.le_trans (by decide) hR.2.1, hR.2.2⟩ (Nat.le_of_ble_eq_true rfl) dX8_hits_34 ?_
      refine lv_goto (tgt := 41) hx hb dX8_hits_37 (by decide) ?_
      have hm := Option.some.inj hm
      subst hm
      exact K 41 ls dX8_hits_41
set_option maxHeartbeats 4000000 in
set_option maxRecDepth 100000 in
theorem tX8_hits (l : Launch) {D : va_G} {n : Nat} {a1 : Int32} {a2 : Int32} {r : Int32} (hm : mX8_hits n mpn mw mt mhi mst mmi mpi a1 a2 = some r) : Met l yX8_hits (.code yX8_hits cX8_hits 3 (some .int) :: tw) ({ frames := 3, cells := 0, slots := 0, locals := 81 } : Room) (rdP D [.ref oM, .int a1, .int a2] (wdM cJ cI oM oM1 oM2 oM3 oM4 oM5 oM6 oM7 oM8 oM9 oM10 oM11 mw mt mrim mjn mhm mpn mbm mgm mpi mst mam mac mro mbe mhi mmi mgr mtr mle) [(cI, .int), (cJ, .long)]) (vp_Si (fun q => q = r)) 0 0 (fun _ => False) := by
  refine Met.ofW (cc := cX8_hits) (maxL := 3) (ret := (some .int)) (by decide) rfl ?_
  intro p e s m args below meth c s₁ B hml hv
  obtain ⟨rfl, hP, hK⟩ := hv
  have hx := B.exec
  have hb := B.bytes
  have hr := B.returns
  have hts : ∀ w ∈ tw, w.before _ s = true := fun w h => atoms_spec (ws := .code yX8_hits cX8_hits 3 (some .int) :: tw) B.pre w (List.mem_cons_of_mem _ h)
  have hown : s.vm.findClass RX8 = some m.cls := findClass_of_methodNamed B.named
  have hlocks := B.notSynchronized
  have hl := lv_entry ([.ref oM, .int a1, .int a2]) (n := 3) (Nat.le_of_ble_eq_true rfl)
  rw [lg_entry_eq]
  generalize (lg_sl ([.ref oM, .int a1, .int a2]) ++ List.replicate (3 - (lg_sl ([.ref oM, .int a1, .int a2])).length) Slot.unset).toArray = ls at hl ⊢
  refine bX8_hits hx hb hml hown hts hK hP ⟨Nat.le_of_ble_eq_true rfl, Nat.le_of_ble_eq_true rfl, Nat.zero_le _, Nat.zero_le _⟩ hm ls hl (fun pc ls hd => ?_)
  exact W.iret hx hb hr (fun t ht hW => ⟨r, rfl, rfl, ht⟩) (fun q h => by cases h) hd
set_option maxHeartbeats 4000000 in
set_option maxRecDepth 100000 in
theorem kX8_hits {own : String} {cc : ByteArray} {nL idx pc : Nat} {ls : Array Slot} {rest : List Value} {n : Nat} {a1 : Int32} {a2 : Int32} {r : Int32} (fx : CallFix p m c cc nL s args tw own) (hq : Cond.methodLink own idx yX8_hits ∈ tw) (hP : va_P D vwCl (wdM cJ cI oM oM1 oM2 oM3 oM4 oM5 oM6 oM7 oM8 oM9 oM10 oM11 mw mt mrim mjn mhm mpn mbm mgm mpi mst mam mac mro mbe mhi mmi mgr mtr mle) H) (hK : va_K D vwCl [(cI, .int), (cJ, .long)] s) (hm : mX8_hits n mpn mw mt mhi mst mmi mpi a1 a2 = some r) (hsz : ls.size = nL) (hR : 4 ≤ R.frames ∧ 103 ≤ R.locals ∧ cells ≤ R.cells ∧ slots ≤ R.slots) (hst : (rest.map fun v => v.category).sum ≤ 8) (hd : decode cc pc = .ok (.invokevirtual idx, 3)) (kk : W p l e R s m args below meth c H locs cells slots Q (F0 m (pc + 3) ls (.int r :: rest))) : W p l e R s m args below meth c H locs cells slots Q (F0 m pc ls (.int a2 :: .int a1 :: .ref oM :: rest)) := by
  exact vp_callSi (va_Run.run (va_runV (As := [.int a1, .int a2]) (rest := rest) fx (tX8_hits l hm) (cwV 2 fx.2.2.2.2 (tw_V hq qw_158 qw_159 qw_53 qw_160) rfl rfl rfl (by decide +kernel) ⟨hR.1, hR.2.1⟩) ⟨rdP_bl, va_recv hK hP (ci := 8) (q0 := 0) rfl rfl, rdP_ok hP hK⟩ rfl rfl hsz rfl (lv_room hst) hd ⟨hR.2.2.1, hR.2.2.2⟩)) (fun r9 hr9 => by first | (rw [hr9]; exact kk) | (rw [hr9.1]; exact kk))
-- X8_deep
def mX8_deep_L56 (n : Nat) (v3 : Int32) (mw : Int32) (mt : Int32) (mrim : Int32) (mst : Nat → Int32) (v2 : Int32) : Nat → (Int64) → (Int32) → Option (((Int32)) ⊕ (Unit))
  | 0, _, _ => none
  | k + 1, v4, v6 => (if (61 : Int32) ≤ v6 then some (.inr (())) else gd (ib v3 4) (jb (mX8_worn n mw mt mrim v4 (mst v3.toNatClampNeg)) (fun (r14 : Int64) => (if (mX8_has r14 v2) = 0 then some (.inl (v6)) else mX8_deep_L56 n v3 mw mt mrim mst v2 k r14 (v6 + (1 : Int32))))))
def mX8_deep (n : Nat) (mw : Int32) (mt : Int32) (mpi : Nat → Int64) (mrim : Int32) (mst : Nat → Int32) (a1 : Int32) (a2 : Int32) (a3 : Int32) : Option Int32 :=
  (if (mX8_isPicture a1) = 0 then (some (-1 : Int32)) else (if (mX8_isCell mw mt a2) = 0 then (some (-1 : Int32)) else (if (mX8_in ((a3).toInt64) (0 : Int64) (3 : Int64)) = 0 then (some (-1 : Int32)) else gd (ib a1 5) ((if (mX8_has (mpi a1.toNatClampNeg) a2) = 0 then (some (-3 : Int32)) else gd (ib a1 5) (jb (mX8_deep_L56 n a3 mw mt mrim mst a2 n (mpi a1.toNatClampNeg) (1 : Int32)) (fun q => el2 q (fun (y18 : Int32) => (some y18)) (fun (_ : Unit) => (some (-9 : Int32))))))))))
theorem dX8_deep_0 : decode cX8_deep 0 = .ok (.iload_n 1, 1) := by decide +kernel
theorem dX8_deep_1 : decode cX8_deep 1 = .ok (.invokestatic 71, 3) := by decide +kernel
theorem dX8_deep_4 : decode cX8_deep 4 = .ok (.ifCond .eq 23, 3) := by decide +kernel
theorem dX8_deep_7 : decode cX8_deep 7 = .ok (.aload_n 0, 1) := by decide +kernel
theorem dX8_deep_8 : decode cX8_deep 8 = .ok (.iload_n 2, 1) := by decide +kernel
theorem dX8_deep_9 : decode cX8_deep 9 = .ok (.invokevirtual 75, 3) := by decide +kernel
theorem dX8_deep_12 : decode cX8_deep 12 = .ok (.ifCond .eq 15, 3) := by decide +kernel
theorem dX8_deep_15 : decode cX8_deep 15 = .ok (.iload_n 3, 1) := by decide +kernel
theorem dX8_deep_16 : decode cX8_deep 16 = .ok (.i2l, 1) := by decide +kernel
theorem dX8_deep_17 : decode cX8_deep 17 = .ok (.lconst 0, 1) := by decide +kernel
theorem dX8_deep_18 : decode cX8_deep 18 = .ok (.ldc2_w 92, 3) := by decide +kernel
theorem dX8_deep_21 : decode cX8_deep 21 = .ok (.invokestatic 63, 3) := by decide +kernel
theorem dX8_deep_24 : decode cX8_deep 24 = .ok (.ifCond .ne 5, 3) := by decide +kernel
theorem dX8_deep_27 : decode cX8_deep 27 = .ok (.iconst (-1), 1) := by decide +kernel
theorem dX8_deep_28 : decode cX8_deep 28 = .ok (.ireturn, 1) := by decide +kernel
theorem dX8_deep_29 : decode cX8_deep 29 = .ok (.aload_n 0, 1) := by decide +kernel
theorem dX8_deep_30 : decode cX8_deep 30 = .ok (.getfield 16, 3) := by decide +kernel
theorem dX8_deep_33 : decode cX8_deep 33 = .ok (.iload_n 1, 1) := by decide +kernel
theorem dX8_deep_34 : decode cX8_deep 34 = .ok (.laload, 1) := by decide +kernel
theorem dX8_deep_35 : decode cX8_deep 35 = .ok (.iload_n 2, 1) := by decide +kernel
theorem dX8_deep_36 : decode cX8_deep 36 = .ok (.invokestatic 78, 3) := by decide +kernel
theorem dX8_deep_39 : decode cX8_deep 39 = .ok (.ifCond .ne 6, 3) := by decide +kernel
theorem dX8_deep_42 : decode cX8_deep 42 = .ok (.bipush (-3), 2) := by decide +kernel
theorem dX8_deep_44 : decode cX8_deep 44 = .ok (.ireturn, 1) := by decide +kernel
theorem dX8_deep_45 : decode cX8_deep 45 = .ok (.aload_n 0, 1) := by decide +kernel
theorem dX8_deep_46 : decode cX8_deep 46 = .ok (.getfield 16, 3) := by decide +kernel
theorem dX8_deep_49 : decode cX8_deep 49 = .ok (.iload_n 1, 1) := by decide +kernel
theorem dX8_deep_50 : decode cX8_deep 50 = .ok (.laload, 1) := by decide +kernel
theorem dX8_deep_51 : decode cX8_deep 51 = .ok (.lstore 4, 2) := by decide +kernel
theorem dX8_deep_53 : decode cX8_deep 53 = .ok (.iconst 1, 1) := by decide +kernel
theorem dX8_deep_54 : decode cX8_deep 54 = .ok (.istore 6, 2) := by decide +kernel
theorem dX8_deep_56 : decode cX8_deep 56 = .ok (.iload 6, 2) := by decide +kernel
theorem dX8_deep_58 : decode cX8_deep 58 = .ok (.bipush 61, 2) := by decide +kernel
theorem dX8_deep_60 : decode cX8_deep 60 = .ok (.if_icmp .ge 35, 3) := by decide +kernel
theorem dX8_deep_63 : decode cX8_deep 63 = .ok (.aload_n 0, 1) := by decide +kernel
theorem dX8_deep_64 : decode cX8_deep 64 = .ok (.lload 4, 2) := by decide +kernel
theorem dX8_deep_66 : decode cX8_deep 66 = .ok (.aload_n 0, 1) := by decide +kernel
theorem dX8_deep_67 : decode cX8_deep 67 = .ok (.getfield 20, 3) := by decide +kernel
theorem dX8_deep_70 : decode cX8_deep 70 = .ok (.iload_n 3, 1) := by decide +kernel
theorem dX8_deep_71 : decode cX8_deep 71 = .ok (.iaload, 1) := by decide +kernel
theorem dX8_deep_72 : decode cX8_deep 72 = .ok (.invokevirtual 106, 3) := by decide +kernel
theorem dX8_deep_75 : decode cX8_deep 75 = .ok (.lstore 4, 2) := by decide +kernel
theorem dX8_deep_77 : decode cX8_deep 77 = .ok (.lload 4, 2) := by decide +kernel
theorem dX8_deep_79 : decode cX8_deep 79 = .ok (.iload_n 2, 1) := by decide +kernel
theorem dX8_deep_80 : decode cX8_deep 80 = .ok (.invokestatic 78, 3) := by decide +kernel
theorem dX8_deep_83 : decode cX8_deep 83 = .ok (.ifCond .ne 6, 3) := by decide +kernel
theorem dX8_deep_86 : decode cX8_deep 86 = .ok (.iload 6, 2) := by decide +kernel
theorem dX8_deep_88 : decode cX8_deep 88 = .ok (.ireturn, 1) := by decide +kernel
theorem dX8_deep_89 : decode cX8_deep 89 = .ok (.iinc 6 1, 3) := by decide +kernel
theorem dX8_deep_92 : decode cX8_deep 92 = .ok (.goto (-36), 3) := by decide +kernel
theorem dX8_deep_95 : decode cX8_deep 95 = .ok (.bipush (-9), 2) := by decide +kernel
theorem dX8_deep_97 : decode cX8_deep 97 = .ok (.ireturn, 1) := by decide +kernel
set_option maxHeartbeats 4000000 in
set_option maxRecDepth 100000 in
theorem wX8_deep_L56 {n : Nat} {v2 : Int32} {v3 : Int32} (hx : p.tables.exec = Jvm.exec) (hb : c.code = cX8_deep) (hml : c.maxLocals = 7) (hown : s.vm.findClass RX8 = some m.cls) (hts : ∀ w ∈ tw, w.before args s = true) (hK : va_K D vwCl [(cI, .int), (cJ, .long)] s) (hP : va_P D vwCl (wdM cJ cI oM oM1 oM2 oM3 oM4 oM5 oM6 oM7 oM8 oM9 oM10 oM11 mw mt mrim mjn mhm mpn mbm mgm mpi mst mam mac mro mbe mhi mmi mgr mtr mle) H) (hR : 3 ≤ R.frames ∧ 78 ≤ R.locals ∧ cells ≤ R.cells ∧ slots ≤ R.slots) : ∀ (k : Nat) (v4 : Int64) (v6 : Int32) (x : ((Int32)) ⊕ (Unit)), mX8_deep_L56 n v3 mw mt mrim mst v2 k v4 v6 = some x → ∀ ls : Array Slot, lv_has ls 7 [(0, .ref oM), (2, .int v2), (3, .int v3), (4, .long v4), (6, .int v6)] → (∀ (x6 : Int32), x = .inl (x6) → ∀ ls : Array Slot, lv_has ls 7 [(6, .int x6)] → W p l e R s m args below meth c H locs cells slots Q (F0 m 86 ls [])) → (x = .inr (()) → ∀ ls : Array Slot, lv_has ls 7 [] → W p l e R s m args below meth c H locs cells slots Q (F0 m 95 ls [])) → W p l e R s m args below meth c H locs cells slots Q (F0 m 56 ls []) := by
  intro k
  induction k with
  | zero => intro v4 v6 x hm; rw [mX8_deep_L56] at hm; cases hm
  | succ k ih =>
    intro v4 v6 x hm ls hl K0 K1
    rw [mX8_deep_L56] at hm
    refine lv_iload hx hb dX8_deep_56 (lv_at hl 4 rfl) ?_
    refine lv_bipush (v := (61 : Int32)) hx hb dX8_deep_58 (by decide) ?_
    refine lv_icmp_ge (tgt := 95) hx hb dX8_deep_60 (by decide) (fun c12 => ?_) (fun c12 => ?_)
    · rw [if_pos c12] at hm
      exact K1  (Option.some.inj hm).symm ls (lv_sub hl [] rfl)
    · rw [if_neg c12] at hm
      refine lv_aload_n hx hb dX8_deep_63 rfl (lv_at hl 0 rfl) ?_
      refine lv_lload hx hb dX8_deep_64 (lv_at hl 3 rfl) ?_
      refine lv_aload_n hx hb dX8_deep_66 rfl (lv_at hl 0 rfl) ?_
      refine va_get (D := D) (ci := 8) (v := .ref oM2) (C := RX8) (T := TX8) (N := 19) hx hb hts tnX8 hown hK hP 0 rfl rfl 3 (by decide) (hts _ qw_93) (fun _ h9 => h9) rfl dX8_deep_67 ?_
      refine lv_iload_n hx hb dX8_deep_70 rfl (lv_at hl 2 rfl) ?_
      obtain ⟨g13, hm⟩ := gd_out hm
      refine va_iald hx hb hK hP 2 0 rfl rfl g13 dX8_deep_71 ?_
      obtain ⟨r14, h15, hm⟩ := jb_out hm
      refine kX8_worn ⟨hx, hb, hml, hown, hts⟩ qw_95 hP hK h15 hl.1 ⟨Nat.le_trans (by decide) hR.1, Nat.le_trans (by decide) hR.2.1, hR.2.2⟩ (Nat.le_of_ble_eq_true rfl) dX8_deep_72 ?_
      refine lv_lstore (lv' := [(4, .long r14), (0, .ref oM), (2, .int v2), (3, .int v3), (6, .int v6)]) hx hb dX8_deep_75 hl (by decide) rfl (fun ls hl => ?_)
      refine lv_lload hx hb dX8_deep_77 (lv_at hl 0 rfl) ?_
      refine lv_iload_n hx hb dX8_deep_79 rfl (lv_at hl 2 rfl) ?_
      refine kX8_has ⟨hx, hb, hml, hown, hts⟩ qw_81 hl.1 ⟨Nat.le_trans (by decide) hR.1, Nat.le_trans (by decide) hR.2.1, hR.2.2⟩ (Nat.le_of_ble_eq_true rfl) dX8_deep_80 ?_
      refine lv_if_ne (tgt := 89) hx hb dX8_deep_83 (by decide) (fun c17 => ?_) (fun c17 => ?_)
      · rw [if_neg c17] at hm
        refine lv_iinc (v := (v6 + (1 : Int32))) (lv' := [(6, .int (v6 + (1 : Int32))), (4, .long r14), (0, .ref oM), (2, .int v2), (3, .int v3)]) hx hb dX8_deep_89 hl (k := 4) rfl (by rfl) (by decide) rfl (fun ls hl => ?_)
        refine lv_goto (tgt := 56) hx hb dX8_deep_92 (by decide) ?_
        exact ih _ _ _ hm ls (lv_sub hl [2, 3, 4, 1, 0] rfl) K0 K1
      · rw [if_pos c17] at hm
        exact K0 _ (Option.some.inj hm).symm ls (lv_sub hl [4] rfl)
set_option maxHeartbeats 4000000 in
set_option maxRecDepth 100000 in
theorem bX8_deep {n : Nat} {a1 : Int32} {a2 : Int32} {a3 : Int32} {r : Int32} (hx : p.tables.exec = Jvm.exec) (hb : c.code = cX8_deep) (hml : c.maxLocals = 7) (hown : s.vm.findClass RX8 = some m.cls) (hts : ∀ w ∈ tw, w.before args s = true) (hK : va_K D vwCl [(cI, .int), (cJ, .long)] s) (hP : va_P D vwCl (wdM cJ cI oM oM1 oM2 oM3 oM4 oM5 oM6 oM7 oM8 oM9 oM10 oM11 mw mt mrim mjn mhm mpn mbm mgm mpi mst mam mac mro mbe mhi mmi mgr mtr mle) H) (hR : 3 ≤ R.frames ∧ 78 ≤ R.locals ∧ cells ≤ R.cells ∧ slots ≤ R.slots) (hm : mX8_deep n mw mt mpi mrim mst a1 a2 a3 = some r) (ls : Array Slot) (hl : lv_has ls 7 [(0, .ref oM), (1, .int a1), (2, .int a2), (3, .int a3)]) (K : ∀ (pc : Nat) (ls : Array Slot), decode cX8_deep pc = .ok (.ireturn, 1) → W p l e R s m args below meth c H locs cells slots Q (F0 m pc ls [.int r])) : W p l e R s m args below meth c H locs cells slots Q (F0 m 0 ls []) := by
  unfold mX8_deep at hm
  refine lv_iload_n hx hb dX8_deep_0 rfl (lv_at hl 1 rfl) ?_
  refine kX8_isPicture ⟨hx, hb, hml, hown, hts⟩ qw_101 hl.1 ⟨Nat.le_trans (by decide) hR.1, Nat.le_trans (by decide) hR.2.1, hR.2.2⟩ (Nat.le_of_ble_eq_true rfl) dX8_deep_1 ?_
  refine lv_if_eq (tgt := 27) hx hb dX8_deep_4 (by decide) (fun c2 => ?_) (fun c2 => ?_)
  · rw [if_pos c2] at hm
    refine lv_iconst (v := (-1 : Int32)) hx hb dX8_deep_27 (by decide) ?_
    have hm := Option.some.inj hm
    subst hm
    exact K 28 ls dX8_deep_28
  · rw [if_neg c2] at hm
    refine lv_aload_n hx hb dX8_deep_7 rfl (lv_at hl 0 rfl) ?_
    refine lv_iload_n hx hb dX8_deep_8 rfl (lv_at hl 2 rfl) ?_
    refine kX8_isCell ⟨hx, hb, hml, hown, hts⟩ qw_102 hP hK hl.1 ⟨Nat.le_trans (by decide) hR.1, Nat.le_trans (by decide) hR.2.1, hR.2.2⟩ (Nat.le_of_ble_eq_true rfl) dX8_deep_9 ?_
    refine lv_if_eq (tgt := 27) hx hb dX8_deep_12 (by decide) (fun c4 => ?_) (fun c4 => ?_)
    · rw [if_pos c4] at hm
      refine lv_iconst (v := (-1 : Int32)) hx hb dX8_deep_27 (by decide) ?_
      have hm := Option.some.inj hm
      subst hm
      exact K 28 ls dX8_deep_28
    · rw [if_neg c4] at hm
      refine lv_iload_n hx hb dX8_deep_15 rfl (lv_at hl 3 rfl) ?_
      refine lv_i2l (v := ((a3).toInt64)) hx hb dX8_deep_16 rfl ?_
      refine lv_lconst (v := (0 : Int64)) hx hb dX8_deep_17 (by decide) ?_
      refine lv_ldc2 (v := (3 : Int64)) hx hb hown (hts _ qw_161) dX8_deep_18 ?_
      refine kX8_in ⟨hx, hb, hml, hown, hts⟩ qw_65 hl.1 ⟨Nat.le_trans (by decide) hR.1, Nat.le_trans (by decide) hR.2.1, hR.2.2⟩ (Nat.le_of_ble_eq_true rfl) dX8_deep_21 ?_
      refine lv_if_ne (tgt := 29) hx hb dX8_deep_24 (by decide) (fun c6 => ?_) (fun c6 => ?_)
      · rw [if_neg c6] at hm
        refine lv_aload_n hx hb dX8_deep_29 rfl (lv_at hl 0 rfl) ?_
        refine va_get (D := D) (ci := 8) (v := .ref oM1) (C := RX8) (T := TX8) (N := 19) hx hb hts tnX8 hown hK hP 0 rfl rfl 2 (by decide) (hts _ qw_103) (fun _ h9 => h9) rfl dX8_deep_30 ?_
        refine lv_iload_n hx hb dX8_deep_33 rfl (lv_at hl 1 rfl) ?_
        obtain ⟨g7, hm⟩ := gd_out hm
        refine va_lald hx hb hK hP 1 1 rfl rfl g7 dX8_deep_34 ?_
        refine lv_iload_n hx hb dX8_deep_35 rfl (lv_at hl 2 rfl) ?_
        refine kX8_has ⟨hx, hb, hml, hown, hts⟩ qw_81 hl.1 ⟨Nat.le_trans (by decide) hR.1, Nat.le_trans (by decide) hR.2.1, hR.2.2⟩ (Nat.le_of_ble_eq_true rfl) dX8_deep_36 ?_
        refine lv_if_ne (tgt := 45) hx hb dX8_deep_39 (by decide) (fun c9 => ?_) (fun c9 => ?_)
        · rw [if_neg c9] at hm
          refine lv_aload_n hx hb dX8_deep_45 rfl (lv_at hl 0 rfl) ?_
          refine va_get (D := D) (ci := 8) (v := .ref oM1) (C := RX8) (T := TX8) (N := 19) hx hb hts tnX8 hown hK hP 0 rfl rfl 2 (by decide) (hts _ qw_103) (fun _ h9 => h9) rfl dX8_deep_46 ?_
          refine lv_iload_n hx hb dX8_deep_49 rfl (lv_at hl 1 rfl) ?_
          obtain ⟨g10, hm⟩ := gd_out hm
          refine va_lald hx hb hK hP 1 1 rfl rfl g10 dX8_deep_50 ?_
          refine lv_lstore (lv' := [(4, .long (mpi a1.toNatClampNeg)), (0, .ref oM), (1, .int a1), (2, .int a2), (3, .int a3)]) hx hb dX8_deep_51 hl (by decide) rfl (fun ls hl => ?_)
          refine lv_iconst (v := (1 : Int32)) hx hb dX8_deep_53 (by decide) ?_
          refine lv_istore (lv' := [(6, .int (1 : Int32)), (4, .long (mpi a1.toNatClampNeg)), (0, .ref oM), (1, .int a1), (2, .int a2), (3, .int a3)]) hx hb dX8_deep_54 hl (by decide) rfl (fun ls hl => ?_)
          obtain ⟨z20, h19, hm⟩ := jb_out hm
          refine wX8_deep_L56 hx hb hml hown hts hK hP hR n _ _ _ h19 ls (lv_sub hl [2, 4, 5, 1, 0] rfl) ?_ ?_
          · intro y18 e21 ls hl
            subst e21
            simp only [el2] at hm
            refine lv_iload hx hb dX8_deep_86 (lv_at hl 0 rfl) ?_
            have hm := Option.some.inj hm
            subst hm
            exact K 88 ls dX8_deep_88
          · intro e22 ls hl
            subst e22
            simp only [el2] at hm
            refine lv_bipush (v := (-9 : Int32)) hx hb dX8_deep_95 (by decide) ?_
            have hm := Option.some.inj hm
            subst hm
            exact K 97 ls dX8_deep_97
        · rw [if_pos c9] at hm
          refine lv_bipush (v := (-3 : Int32)) hx hb dX8_deep_42 (by decide) ?_
          have hm := Option.some.inj hm
          subst hm
          exact K 44 ls dX8_deep_44
      · rw [if_pos c6] at hm
        refine lv_iconst (v := (-1 : Int32)) hx hb dX8_deep_27 (by decide) ?_
        have hm := Option.some.inj hm
        subst hm
        exact K 28 ls dX8_deep_28
set_option maxHeartbeats 4000000 in
set_option maxRecDepth 100000 in
theorem tX8_deep (l : Launch) {D : va_G} {n : Nat} {a1 : Int32} {a2 : Int32} {a3 : Int32} {r : Int32} (hm : mX8_deep n mw mt mpi mrim mst a1 a2 a3 = some r) : Met l yX8_deep (.code yX8_deep cX8_deep 7 (some .int) :: tw) ({ frames := 3, cells := 0, slots := 0, locals := 78 } : Room) (rdP D [.ref oM, .int a1, .int a2, .int a3] (wdM cJ cI oM oM1 oM2 oM3 oM4 oM5 oM6 oM7 oM8 oM9 oM10 oM11 mw mt mrim mjn mhm mpn mbm mgm mpi mst mam mac mro mbe mhi mmi mgr mtr mle) [(cI, .int), (cJ, .long)]) (vp_Si (fun q => q = r)) 0 0 (fun _ => False) := by
  refine Met.ofW (cc := cX8_deep) (maxL := 7) (ret := (some .int)) (by decide) rfl ?_
  intro p e s m args below meth c s₁ B hml hv
  obtain ⟨rfl, hP, hK⟩ := hv
  have hx := B.exec
  have hb := B.bytes
  have hr := B.returns
  have hts : ∀ w ∈ tw, w.before _ s = true := fun w h => atoms_spec (ws := .code yX8_deep cX8_deep 7 (some .int) :: tw) B.pre w (List.mem_cons_of_mem _ h)
  have hown : s.vm.findClass RX8 = some m.cls := findClass_of_methodNamed B.named
  have hlocks := B.notSynchronized
  have hl := lv_entry ([.ref oM, .int a1, .int a2, .int a3]) (n := 7) (Nat.le_of_ble_eq_true rfl)
  rw [lg_entry_eq]
  generalize (lg_sl ([.ref oM, .int a1, .int a2, .int a3]) ++ List.replicate (7 - (lg_sl ([.ref oM, .int a1, .int a2, .int a3])).length) Slot.unset).toArray = ls at hl ⊢
  refine bX8_deep hx hb hml hown hts hK hP ⟨Nat.le_of_ble_eq_true rfl, Nat.le_of_ble_eq_true rfl, Nat.zero_le _, Nat.zero_le _⟩ hm ls hl (fun pc ls hd => ?_)
  exact W.iret hx hb hr (fun t ht hW => ⟨r, rfl, rfl, ht⟩) (fun q h => by cases h) hd
set_option maxHeartbeats 4000000 in
set_option maxRecDepth 100000 in
theorem kX8_deep {own : String} {cc : ByteArray} {nL idx pc : Nat} {ls : Array Slot} {rest : List Value} {n : Nat} {a1 : Int32} {a2 : Int32} {a3 : Int32} {r : Int32} (fx : CallFix p m c cc nL s args tw own) (hq : Cond.methodLink own idx yX8_deep ∈ tw) (hP : va_P D vwCl (wdM cJ cI oM oM1 oM2 oM3 oM4 oM5 oM6 oM7 oM8 oM9 oM10 oM11 mw mt mrim mjn mhm mpn mbm mgm mpi mst mam mac mro mbe mhi mmi mgr mtr mle) H) (hK : va_K D vwCl [(cI, .int), (cJ, .long)] s) (hm : mX8_deep n mw mt mpi mrim mst a1 a2 a3 = some r) (hsz : ls.size = nL) (hR : 4 ≤ R.frames ∧ 104 ≤ R.locals ∧ cells ≤ R.cells ∧ slots ≤ R.slots) (hst : (rest.map fun v => v.category).sum ≤ 8) (hd : decode cc pc = .ok (.invokevirtual idx, 3)) (kk : W p l e R s m args below meth c H locs cells slots Q (F0 m (pc + 3) ls (.int r :: rest))) : W p l e R s m args below meth c H locs cells slots Q (F0 m pc ls (.int a3 :: .int a2 :: .int a1 :: .ref oM :: rest)) := by
  exact vp_callSi (va_Run.run (va_runV (As := [.int a1, .int a2, .int a3]) (rest := rest) fx (tX8_deep l hm) (cwV 3 fx.2.2.2.2 (tw_V hq qw_162 qw_163 qw_53 qw_164) rfl rfl rfl (by decide +kernel) ⟨hR.1, hR.2.1⟩) ⟨rdP_bl, va_recv hK hP (ci := 8) (q0 := 0) rfl rfl, rdP_ok hP hK⟩ rfl rfl hsz rfl (lv_room hst) hd ⟨hR.2.2.1, hR.2.2.2⟩)) (fun r9 hr9 => by first | (rw [hr9]; exact kk) | (rw [hr9.1]; exact kk))
-- X8_explains
def mX8_explains_L21 (n : Nat) (v1 : Int32) (mw : Int32) (mt : Int32) (mpi : Nat → Int64) (v2 : Int32) : Nat → (Int32) → (Int32) → Option ((Int32))
  | 0, _, _ => none
  | k + 1, v3, v4 => (if (512 : Int32) ≤ v4 then some (v3) else gd (ib v1 5) (jb (mX8_grown n mw mt (mpi v1.toNatClampNeg) v4) (fun (r8 : Int64) => gd (ib v2 5) (jl (if r8 = (mpi v2.toNatClampNeg) then (1 : Int32) else (0 : Int32)) (fun j11 => mX8_explains_L21 n v1 mw mt mpi v2 k (v3 + j11) (v4 + (1 : Int32)))))))
def mX8_explains (n : Nat) (mw : Int32) (mt : Int32) (mpi : Nat → Int64) (a1 : Int32) (a2 : Int32) : Option Int32 :=
  (if (mX8_isPicture a1) = 0 then (some (-1 : Int32)) else (if (mX8_isPicture a2) = 0 then (some (-1 : Int32)) else jb (mX8_explains_L21 n a1 mw mt mpi a2 n (0 : Int32) (0 : Int32)) (fun (y15 : Int32) => (some y15))))
theorem dX8_explains_0 : decode cX8_explains 0 = .ok (.iload_n 1, 1) := by decide +kernel
theorem dX8_explains_1 : decode cX8_explains 1 = .ok (.invokestatic 71, 3) := by decide +kernel
theorem dX8_explains_4 : decode cX8_explains 4 = .ok (.ifCond .eq 10, 3) := by decide +kernel
theorem dX8_explains_7 : decode cX8_explains 7 = .ok (.iload_n 2, 1) := by decide +kernel
theorem dX8_explains_8 : decode cX8_explains 8 = .ok (.invokestatic 71, 3) := by decide +kernel
theorem dX8_explains_11 : decode cX8_explains 11 = .ok (.ifCond .ne 5, 3) := by decide +kernel
theorem dX8_explains_14 : decode cX8_explains 14 = .ok (.iconst (-1), 1) := by decide +kernel
theorem dX8_explains_15 : decode cX8_explains 15 = .ok (.ireturn, 1) := by decide +kernel
theorem dX8_explains_16 : decode cX8_explains 16 = .ok (.iconst 0, 1) := by decide +kernel
theorem dX8_explains_17 : decode cX8_explains 17 = .ok (.istore_n 3, 1) := by decide +kernel
theorem dX8_explains_18 : decode cX8_explains 18 = .ok (.iconst 0, 1) := by decide +kernel
theorem dX8_explains_19 : decode cX8_explains 19 = .ok (.istore 4, 2) := by decide +kernel
theorem dX8_explains_21 : decode cX8_explains 21 = .ok (.iload 4, 2) := by decide +kernel
theorem dX8_explains_23 : decode cX8_explains 23 = .ok (.sipush 512, 3) := by decide +kernel
theorem dX8_explains_26 : decode cX8_explains 26 = .ok (.if_icmp .ge 39, 3) := by decide +kernel
theorem dX8_explains_29 : decode cX8_explains 29 = .ok (.iload_n 3, 1) := by decide +kernel
theorem dX8_explains_30 : decode cX8_explains 30 = .ok (.aload_n 0, 1) := by decide +kernel
theorem dX8_explains_31 : decode cX8_explains 31 = .ok (.aload_n 0, 1) := by decide +kernel
theorem dX8_explains_32 : decode cX8_explains 32 = .ok (.getfield 16, 3) := by decide +kernel
theorem dX8_explains_35 : decode cX8_explains 35 = .ok (.iload_n 1, 1) := by decide +kernel
theorem dX8_explains_36 : decode cX8_explains 36 = .ok (.laload, 1) := by decide +kernel
theorem dX8_explains_37 : decode cX8_explains 37 = .ok (.iload 4, 2) := by decide +kernel
theorem dX8_explains_39 : decode cX8_explains 39 = .ok (.invokevirtual 102, 3) := by decide +kernel
theorem dX8_explains_42 : decode cX8_explains 42 = .ok (.aload_n 0, 1) := by decide +kernel
theorem dX8_explains_43 : decode cX8_explains 43 = .ok (.getfield 16, 3) := by decide +kernel
theorem dX8_explains_46 : decode cX8_explains 46 = .ok (.iload_n 2, 1) := by decide +kernel
theorem dX8_explains_47 : decode cX8_explains 47 = .ok (.laload, 1) := by decide +kernel
theorem dX8_explains_48 : decode cX8_explains 48 = .ok (.lcmp, 1) := by decide +kernel
theorem dX8_explains_49 : decode cX8_explains 49 = .ok (.ifCond .ne 7, 3) := by decide +kernel
theorem dX8_explains_52 : decode cX8_explains 52 = .ok (.iconst 1, 1) := by decide +kernel
theorem dX8_explains_53 : decode cX8_explains 53 = .ok (.goto 4, 3) := by decide +kernel
theorem dX8_explains_56 : decode cX8_explains 56 = .ok (.iconst 0, 1) := by decide +kernel
theorem dX8_explains_57 : decode cX8_explains 57 = .ok (.iadd, 1) := by decide +kernel
theorem dX8_explains_58 : decode cX8_explains 58 = .ok (.istore_n 3, 1) := by decide +kernel
theorem dX8_explains_59 : decode cX8_explains 59 = .ok (.iinc 4 1, 3) := by decide +kernel
theorem dX8_explains_62 : decode cX8_explains 62 = .ok (.goto (-41), 3) := by decide +kernel
theorem dX8_explains_65 : decode cX8_explains 65 = .ok (.iload_n 3, 1) := by decide +kernel
theorem dX8_explains_66 : decode cX8_explains 66 = .ok (.ireturn, 1) := by decide +kernel
set_option maxHeartbeats 4000000 in
set_option maxRecDepth 100000 in
theorem wX8_explains_L21 {n : Nat} {v1 : Int32} {v2 : Int32} (hx : p.tables.exec = Jvm.exec) (hb : c.code = cX8_explains) (hml : c.maxLocals = 5) (hown : s.vm.findClass RX8 = some m.cls) (hts : ∀ w ∈ tw, w.before args s = true) (hK : va_K D vwCl [(cI, .int), (cJ, .long)] s) (hP : va_P D vwCl (wdM cJ cI oM oM1 oM2 oM3 oM4 oM5 oM6 oM7 oM8 oM9 oM10 oM11 mw mt mrim mjn mhm mpn mbm mgm mpi mst mam mac mro mbe mhi mmi mgr mtr mle) H) (hR : 3 ≤ R.frames ∧ 77 ≤ R.locals ∧ cells ≤ R.cells ∧ slots ≤ R.slots) : ∀ (k : Nat) (v3 : Int32) (v4 : Int32) (x3 : Int32), mX8_explains_L21 n v1 mw mt mpi v2 k v3 v4 = some (x3) → ∀ ls : Array Slot, lv_has ls 5 [(0, .ref oM), (1, .int v1), (2, .int v2), (3, .int v3), (4, .int v4)] → (∀ ls : Array Slot, lv_has ls 5 [(3, .int x3)] → W p l e R s m args below meth c H locs cells slots Q (F0 m 65 ls [])) → W p l e R s m args below meth c H locs cells slots Q (F0 m 21 ls []) := by
  intro k
  induction k with
  | zero => intro v3 v4 x3 hm; rw [mX8_explains_L21] at hm; cases hm
  | succ k ih =>
    intro v3 v4 x3 hm ls hl K0
    rw [mX8_explains_L21] at hm
    refine lv_iload hx hb dX8_explains_21 (lv_at hl 4 rfl) ?_
    refine lv_sipush (v := (512 : Int32)) hx hb dX8_explains_23 (by decide) ?_
    refine lv_icmp_ge (tgt := 65) hx hb dX8_explains_26 (by decide) (fun c6 => ?_) (fun c6 => ?_)
    · rw [if_pos c6] at hm
      have hm := Option.some.inj hm
      have e9 : x3 = v3 := (congrArg (fun q => q) hm).symm
      rw [e9] at K0
      exact K0 ls (lv_sub hl [3] rfl)
    · rw [if_neg c6] at hm
      refine lv_iload_n hx hb dX8_explains_29 rfl (lv_at hl 3 rfl) ?_
      refine lv_aload_n hx hb dX8_explains_30 rfl (lv_at hl 0 rfl) ?_
      refine lv_aload_n hx hb dX8_explains_31 rfl (lv_at hl 0 rfl) ?_
      refine va_get (D := D) (ci := 8) (v := .ref oM1) (C := RX8) (T := TX8) (N := 19) hx hb hts tnX8 hown hK hP 0 rfl rfl 2 (by decide) (hts _ qw_103) (fun _ h9 => h9) rfl dX8_explains_32 ?_
      refine lv_iload_n hx hb dX8_explains_35 rfl (lv_at hl 1 rfl) ?_
      obtain ⟨g7, hm⟩ := gd_out hm
      refine va_lald hx hb hK hP 1 1 rfl rfl g7 dX8_explains_36 ?_
      refine lv_iload hx hb dX8_explains_37 (lv_at hl 4 rfl) ?_
      obtain ⟨r8, h9, hm⟩ := jb_out hm
      refine kX8_grown ⟨hx, hb, hml, hown, hts⟩ qw_94 hP hK h9 hl.1 ⟨Nat.le_trans (by decide) hR.1, Nat.le_trans (by decide) hR.2.1, hR.2.2⟩ (Nat.le_of_ble_eq_true rfl) dX8_explains_39 ?_
      refine lv_aload_n hx hb dX8_explains_42 rfl (lv_at hl 0 rfl) ?_
      refine va_get (D := D) (ci := 8) (v := .ref oM1) (C := RX8) (T := TX8) (N := 19) hx hb hts tnX8 hown hK hP 0 rfl rfl 2 (by decide) (hts _ qw_103) (fun _ h9 => h9) rfl dX8_explains_43 ?_
      refine lv_iload_n hx hb dX8_explains_46 rfl (lv_at hl 2 rfl) ?_
      obtain ⟨g10, hm⟩ := gd_out hm
      refine va_lald hx hb hK hP 1 1 rfl rfl g10 dX8_explains_47 ?_
      refine W.lcmp hx hb dX8_explains_48 ?_
      obtain ⟨j11, hi12, hm⟩ := jl_out hm
      have key13 : ∀ (ls : Array Slot), lv_has ls 5 [(0, .ref oM), (1, .int v1), (2, .int v2), (4, .int v4)] → W p l e R s m args below meth c H locs cells slots Q (F0 m 57 ls [.int j11, .int v3]) := by
        intro ls hl
        refine lv_iadd hx hb dX8_explains_57 ?_
        refine lv_istore_n (lv' := [(3, .int (v3 + j11)), (0, .ref oM), (1, .int v1), (2, .int v2), (4, .int v4)]) hx hb dX8_explains_58 rfl hl (by decide) rfl (fun ls hl => ?_)
        refine lv_iinc (v := (v4 + (1 : Int32))) (lv' := [(4, .int (v4 + (1 : Int32))), (3, .int (v3 + j11)), (0, .ref oM), (1, .int v1), (2, .int v2)]) hx hb dX8_explains_59 hl (k := 4) rfl (by rfl) (by decide) rfl (fun ls hl => ?_)
        refine lv_goto (tgt := 21) hx hb dX8_explains_62 (by decide) ?_
        exact ih _ _ _ hm ls (lv_sub hl [2, 3, 4, 1, 0] rfl) K0
      refine lv_if_ne (tgt := 56) hx hb dX8_explains_49 (by decide) (fun c14 => ?_) (fun c14 => ?_)
      · have c14 := fun h9 => c14 ((lg_cmp_eq r8 (mpi v2.toNatClampNeg)).mpr h9)
        rw [if_neg c14] at hi12
        refine lv_iconst (v := (0 : Int32)) hx hb dX8_explains_56 (by decide) ?_
        rw [hi12] at key13
        exact key13 ls (lv_sub hl [0, 1, 2, 4] rfl)
      · have c14 := (lg_cmp_eq r8 (mpi v2.toNatClampNeg)).mp c14
        rw [if_pos c14] at hi12
        refine lv_iconst (v := (1 : Int32)) hx hb dX8_explains_52 (by decide) ?_
        refine lv_goto (tgt := 57) hx hb dX8_explains_53 (by decide) ?_
        rw [hi12] at key13
        exact key13 ls (lv_sub hl [0, 1, 2, 4] rfl)
set_option maxHeartbeats 4000000 in
set_option maxRecDepth 100000 in
theorem bX8_explains {n : Nat} {a1 : Int32} {a2 : Int32} {r : Int32} (hx : p.tables.exec = Jvm.exec) (hb : c.code = cX8_explains) (hml : c.maxLocals = 5) (hown : s.vm.findClass RX8 = some m.cls) (hts : ∀ w ∈ tw, w.before args s = true) (hK : va_K D vwCl [(cI, .int), (cJ, .long)] s) (hP : va_P D vwCl (wdM cJ cI oM oM1 oM2 oM3 oM4 oM5 oM6 oM7 oM8 oM9 oM10 oM11 mw mt mrim mjn mhm mpn mbm mgm mpi mst mam mac mro mbe mhi mmi mgr mtr mle) H) (hR : 3 ≤ R.frames ∧ 77 ≤ R.locals ∧ cells ≤ R.cells ∧ slots ≤ R.slots) (hm : mX8_explains n mw mt mpi a1 a2 = some r) (ls : Array Slot) (hl : lv_has ls 5 [(0, .ref oM), (1, .int a1), (2, .int a2)]) (K : ∀ (pc : Nat) (ls : Array Slot), decode cX8_explains pc = .ok (.ireturn, 1) → W p l e R s m args below meth c H locs cells slots Q (F0 m pc ls [.int r])) : W p l e R s m args below meth c H locs cells slots Q (F0 m 0 ls []) := by
  unfold mX8_explains at hm
  refine lv_iload_n hx hb dX8_explains_0 rfl (lv_at hl 1 rfl) ?_
  refine kX8_isPicture ⟨hx, hb, hml, hown, hts⟩ qw_101 hl.1 ⟨Nat.le_trans (by decide) hR.1, Nat.le_trans (by decide) hR.2.1, hR.2.2⟩ (Nat.le_of_ble_eq_true rfl) dX8_explains_1 ?_
  refine lv_if_eq (tgt := 14) hx hb dX8_explains_4 (by decide) (fun c2 => ?_) (fun c2 => ?_)
  · rw [if_pos c2] at hm
    refine lv_iconst (v := (-1 : Int32)) hx hb dX8_explains_14 (by decide) ?_
    have hm := Option.some.inj hm
    subst hm
    exact K 15 ls dX8_explains_15
  · rw [if_neg c2] at hm
    refine lv_iload_n hx hb dX8_explains_7 rfl (lv_at hl 2 rfl) ?_
    refine kX8_isPicture ⟨hx, hb, hml, hown, hts⟩ qw_101 hl.1 ⟨Nat.le_trans (by decide) hR.1, Nat.le_trans (by decide) hR.2.1, hR.2.2⟩ (Nat.le_of_ble_eq_true rfl) dX8_explains_8 ?_
    refine lv_if_ne (tgt := 16) hx hb dX8_explains_11 (by decide) (fun c4 => ?_) (fun c4 => ?_)
    · rw [if_neg c4] at hm
      refine lv_iconst (v := (0 : Int32)) hx hb dX8_explains_16 (by decide) ?_
      refine lv_istore_n (lv' := [(3, .int (0 : Int32)), (0, .ref oM), (1, .int a1), (2, .int a2)]) hx hb dX8_explains_17 rfl hl (by decide) rfl (fun ls hl => ?_)
      refine lv_iconst (v := (0 : Int32)) hx hb dX8_explains_18 (by decide) ?_
      refine lv_istore (lv' := [(4, .int (0 : Int32)), (3, .int (0 : Int32)), (0, .ref oM), (1, .int a1), (2, .int a2)]) hx hb dX8_explains_19 hl (by decide) rfl (fun ls hl => ?_)
      obtain ⟨y15, h16, hm⟩ := jb_out hm
      refine wX8_explains_L21 hx hb hml hown hts hK hP hR n _ _ _  h16 ls (lv_sub hl [2, 3, 4, 1, 0] rfl) (fun ls hl => ?_)
      refine lv_iload_n hx hb dX8_explains_65 rfl (lv_at hl 0 rfl) ?_
      have hm := Option.some.inj hm
      subst hm
      exact K 66 ls dX8_explains_66
    · rw [if_pos c4] at hm
      refine lv_iconst (v := (-1 : Int32)) hx hb dX8_explains_14 (by decide) ?_
      have hm := Option.some.inj hm
      subst hm
      exact K 15 ls dX8_explains_15
set_option maxHeartbeats 4000000 in
set_option maxRecDepth 100000 in
theorem tX8_explains (l : Launch) {D : va_G} {n : Nat} {a1 : Int32} {a2 : Int32} {r : Int32} (hm : mX8_explains n mw mt mpi a1 a2 = some r) : Met l yX8_explains (.code yX8_explains cX8_explains 5 (some .int) :: tw) ({ frames := 3, cells := 0, slots := 0, locals := 77 } : Room) (rdP D [.ref oM, .int a1, .int a2] (wdM cJ cI oM oM1 oM2 oM3 oM4 oM5 oM6 oM7 oM8 oM9 oM10 oM11 mw mt mrim mjn mhm mpn mbm mgm mpi mst mam mac mro mbe mhi mmi mgr mtr mle) [(cI, .int), (cJ, .long)]) (vp_Si (fun q => q = r)) 0 0 (fun _ => False) := by
  refine Met.ofW (cc := cX8_explains) (maxL := 5) (ret := (some .int)) (by decide) rfl ?_
  intro p e s m args below meth c s₁ B hml hv
  obtain ⟨rfl, hP, hK⟩ := hv
  have hx := B.exec
  have hb := B.bytes
  have hr := B.returns
  have hts : ∀ w ∈ tw, w.before _ s = true := fun w h => atoms_spec (ws := .code yX8_explains cX8_explains 5 (some .int) :: tw) B.pre w (List.mem_cons_of_mem _ h)
  have hown : s.vm.findClass RX8 = some m.cls := findClass_of_methodNamed B.named
  have hlocks := B.notSynchronized
  have hl := lv_entry ([.ref oM, .int a1, .int a2]) (n := 5) (Nat.le_of_ble_eq_true rfl)
  rw [lg_entry_eq]
  generalize (lg_sl ([.ref oM, .int a1, .int a2]) ++ List.replicate (5 - (lg_sl ([.ref oM, .int a1, .int a2])).length) Slot.unset).toArray = ls at hl ⊢
  refine bX8_explains hx hb hml hown hts hK hP ⟨Nat.le_of_ble_eq_true rfl, Nat.le_of_ble_eq_true rfl, Nat.zero_le _, Nat.zero_le _⟩ hm ls hl (fun pc ls hd => ?_)
  exact W.iret hx hb hr (fun t ht hW => ⟨r, rfl, rfl, ht⟩) (fun q h => by cases h) hd
set_option maxHeartbeats 4000000 in
set_option maxRecDepth 100000 in
theorem kX8_explains {own : String} {cc : ByteArray} {nL idx pc : Nat} {ls : Array Slot} {rest : List Value} {n : Nat} {a1 : Int32} {a2 : Int32} {r : Int32} (fx : CallFix p m c cc nL s args tw own) (hq : Cond.methodLink own idx yX8_explains ∈ tw) (hP : va_P D vwCl (wdM cJ cI oM oM1 oM2 oM3 oM4 oM5 oM6 oM7 oM8 oM9 oM10 oM11 mw mt mrim mjn mhm mpn mbm mgm mpi mst mam mac mro mbe mhi mmi mgr mtr mle) H) (hK : va_K D vwCl [(cI, .int), (cJ, .long)] s) (hm : mX8_explains n mw mt mpi a1 a2 = some r) (hsz : ls.size = nL) (hR : 4 ≤ R.frames ∧ 101 ≤ R.locals ∧ cells ≤ R.cells ∧ slots ≤ R.slots) (hst : (rest.map fun v => v.category).sum ≤ 8) (hd : decode cc pc = .ok (.invokevirtual idx, 3)) (kk : W p l e R s m args below meth c H locs cells slots Q (F0 m (pc + 3) ls (.int r :: rest))) : W p l e R s m args below meth c H locs cells slots Q (F0 m pc ls (.int a2 :: .int a1 :: .ref oM :: rest)) := by
  exact vp_callSi (va_Run.run (va_runV (As := [.int a1, .int a2]) (rest := rest) fx (tX8_explains l hm) (cwV 2 fx.2.2.2.2 (tw_V hq qw_165 qw_166 qw_53 qw_167) rfl rfl rfl (by decide +kernel) ⟨hR.1, hR.2.1⟩) ⟨rdP_bl, va_recv hK hP (ci := 8) (q0 := 0) rfl rfl, rdP_ok hP hK⟩ rfl rfl hsz rfl (lv_room hst) hd ⟨hR.2.2.1, hR.2.2.2⟩)) (fun r9 hr9 => by first | (rw [hr9]; exact kk) | (rw [hr9.1]; exact kk))
-- X8_least
def mX8_least_L22 (n : Nat) (v1 : Int32) (mw : Int32) (mt : Int32) (mpi : Nat → Int64) (v2 : Int32) : Nat → (Int32) → (Int32) → Option ((Int32))
  | 0, _, _ => none
  | k + 1, v3, v4 => (if (512 : Int32) ≤ v4 then some (v3) else jb (if v3 = (-9 : Int32) then (some ((1 : Int32))) else jb (mX8_many n ((v4).toInt64)) (fun (r11 : Int32) => jb (mX8_many n ((v3).toInt64)) (fun (r13 : Int32) => (if r13 ≤ r11 then (some ((0 : Int32))) else (some ((1 : Int32))))))) (fun (j7 : Int32) => jb (if j7 = 0 then (some (v3)) else gd (ib v1 5) (jb (mX8_grown n mw mt (mpi v1.toNatClampNeg) v4) (fun (r21 : Int64) => gd (ib v2 5) ((if r21 = (mpi v2.toNatClampNeg) then (some (v4)) else (some (v3))))))) (fun (j16 : Int32) => mX8_least_L22 n v1 mw mt mpi v2 k j16 (v4 + (1 : Int32)))))
def mX8_least (n : Nat) (mw : Int32) (mt : Int32) (mpi : Nat → Int64) (a1 : Int32) (a2 : Int32) : Option Int32 :=
  (if (mX8_isPicture a1) = 0 then (some (-1 : Int32)) else (if (mX8_isPicture a2) = 0 then (some (-1 : Int32)) else jb (mX8_least_L22 n a1 mw mt mpi a2 n (-9 : Int32) (0 : Int32)) (fun (y25 : Int32) => (some y25))))
theorem dX8_least_0 : decode cX8_least 0 = .ok (.iload_n 1, 1) := by decide +kernel
theorem dX8_least_1 : decode cX8_least 1 = .ok (.invokestatic 71, 3) := by decide +kernel
theorem dX8_least_4 : decode cX8_least 4 = .ok (.ifCond .eq 10, 3) := by decide +kernel
theorem dX8_least_7 : decode cX8_least 7 = .ok (.iload_n 2, 1) := by decide +kernel
theorem dX8_least_8 : decode cX8_least 8 = .ok (.invokestatic 71, 3) := by decide +kernel
theorem dX8_least_11 : decode cX8_least 11 = .ok (.ifCond .ne 5, 3) := by decide +kernel
theorem dX8_least_14 : decode cX8_least 14 = .ok (.iconst (-1), 1) := by decide +kernel
theorem dX8_least_15 : decode cX8_least 15 = .ok (.ireturn, 1) := by decide +kernel
theorem dX8_least_16 : decode cX8_least 16 = .ok (.bipush (-9), 2) := by decide +kernel
theorem dX8_least_18 : decode cX8_least 18 = .ok (.istore_n 3, 1) := by decide +kernel
theorem dX8_least_19 : decode cX8_least 19 = .ok (.iconst 0, 1) := by decide +kernel
theorem dX8_least_20 : decode cX8_least 20 = .ok (.istore 4, 2) := by decide +kernel
theorem dX8_least_22 : decode cX8_least 22 = .ok (.iload 4, 2) := by decide +kernel
theorem dX8_least_24 : decode cX8_least 24 = .ok (.sipush 512, 3) := by decide +kernel
theorem dX8_least_27 : decode cX8_least 27 = .ok (.if_icmp .ge 70, 3) := by decide +kernel
theorem dX8_least_30 : decode cX8_least 30 = .ok (.iload_n 3, 1) := by decide +kernel
theorem dX8_least_31 : decode cX8_least 31 = .ok (.bipush (-9), 2) := by decide +kernel
theorem dX8_least_33 : decode cX8_least 33 = .ok (.if_icmp .eq 17, 3) := by decide +kernel
theorem dX8_least_36 : decode cX8_least 36 = .ok (.iload 4, 2) := by decide +kernel
theorem dX8_least_38 : decode cX8_least 38 = .ok (.i2l, 1) := by decide +kernel
theorem dX8_least_39 : decode cX8_least 39 = .ok (.invokestatic 88, 3) := by decide +kernel
theorem dX8_least_42 : decode cX8_least 42 = .ok (.iload_n 3, 1) := by decide +kernel
theorem dX8_least_43 : decode cX8_least 43 = .ok (.i2l, 1) := by decide +kernel
theorem dX8_least_44 : decode cX8_least 44 = .ok (.invokestatic 88, 3) := by decide +kernel
theorem dX8_least_47 : decode cX8_least 47 = .ok (.if_icmp .ge 7, 3) := by decide +kernel
theorem dX8_least_50 : decode cX8_least 50 = .ok (.iconst 1, 1) := by decide +kernel
theorem dX8_least_51 : decode cX8_least 51 = .ok (.goto 4, 3) := by decide +kernel
theorem dX8_least_54 : decode cX8_least 54 = .ok (.iconst 0, 1) := by decide +kernel
theorem dX8_least_55 : decode cX8_least 55 = .ok (.istore 5, 2) := by decide +kernel
theorem dX8_least_57 : decode cX8_least 57 = .ok (.iload 5, 2) := by decide +kernel
theorem dX8_least_59 : decode cX8_least 59 = .ok (.ifCond .eq 30, 3) := by decide +kernel
theorem dX8_least_62 : decode cX8_least 62 = .ok (.aload_n 0, 1) := by decide +kernel
theorem dX8_least_63 : decode cX8_least 63 = .ok (.aload_n 0, 1) := by decide +kernel
theorem dX8_least_64 : decode cX8_least 64 = .ok (.getfield 16, 3) := by decide +kernel
theorem dX8_least_67 : decode cX8_least 67 = .ok (.iload_n 1, 1) := by decide +kernel
theorem dX8_least_68 : decode cX8_least 68 = .ok (.laload, 1) := by decide +kernel
theorem dX8_least_69 : decode cX8_least 69 = .ok (.iload 4, 2) := by decide +kernel
theorem dX8_least_71 : decode cX8_least 71 = .ok (.invokevirtual 102, 3) := by decide +kernel
theorem dX8_least_74 : decode cX8_least 74 = .ok (.aload_n 0, 1) := by decide +kernel
theorem dX8_least_75 : decode cX8_least 75 = .ok (.getfield 16, 3) := by decide +kernel
theorem dX8_least_78 : decode cX8_least 78 = .ok (.iload_n 2, 1) := by decide +kernel
theorem dX8_least_79 : decode cX8_least 79 = .ok (.laload, 1) := by decide +kernel
theorem dX8_least_80 : decode cX8_least 80 = .ok (.lcmp, 1) := by decide +kernel
theorem dX8_least_81 : decode cX8_least 81 = .ok (.ifCond .ne 8, 3) := by decide +kernel
theorem dX8_least_84 : decode cX8_least 84 = .ok (.iload 4, 2) := by decide +kernel
theorem dX8_least_86 : decode cX8_least 86 = .ok (.goto 4, 3) := by decide +kernel
theorem dX8_least_89 : decode cX8_least 89 = .ok (.iload_n 3, 1) := by decide +kernel
theorem dX8_least_90 : decode cX8_least 90 = .ok (.istore_n 3, 1) := by decide +kernel
theorem dX8_least_91 : decode cX8_least 91 = .ok (.iinc 4 1, 3) := by decide +kernel
theorem dX8_least_94 : decode cX8_least 94 = .ok (.goto (-72), 3) := by decide +kernel
theorem dX8_least_97 : decode cX8_least 97 = .ok (.iload_n 3, 1) := by decide +kernel
theorem dX8_least_98 : decode cX8_least 98 = .ok (.ireturn, 1) := by decide +kernel
set_option maxHeartbeats 4000000 in
set_option maxRecDepth 100000 in
theorem wX8_least_L22 {n : Nat} {v1 : Int32} {v2 : Int32} (hx : p.tables.exec = Jvm.exec) (hb : c.code = cX8_least) (hml : c.maxLocals = 6) (hown : s.vm.findClass RX8 = some m.cls) (hts : ∀ w ∈ tw, w.before args s = true) (hK : va_K D vwCl [(cI, .int), (cJ, .long)] s) (hP : va_P D vwCl (wdM cJ cI oM oM1 oM2 oM3 oM4 oM5 oM6 oM7 oM8 oM9 oM10 oM11 mw mt mrim mjn mhm mpn mbm mgm mpi mst mam mac mro mbe mhi mmi mgr mtr mle) H) (hR : 3 ≤ R.frames ∧ 77 ≤ R.locals ∧ cells ≤ R.cells ∧ slots ≤ R.slots) : ∀ (k : Nat) (v3 : Int32) (v4 : Int32) (x3 : Int32), mX8_least_L22 n v1 mw mt mpi v2 k v3 v4 = some (x3) → ∀ ls : Array Slot, lv_has ls 6 [(0, .ref oM), (1, .int v1), (2, .int v2), (3, .int v3), (4, .int v4)] → (∀ ls : Array Slot, lv_has ls 6 [(3, .int x3)] → W p l e R s m args below meth c H locs cells slots Q (F0 m 97 ls [])) → W p l e R s m args below meth c H locs cells slots Q (F0 m 22 ls []) := by
  intro k
  induction k with
  | zero => intro v3 v4 x3 hm; rw [mX8_least_L22] at hm; cases hm
  | succ k ih =>
    intro v3 v4 x3 hm ls hl K0
    rw [mX8_least_L22] at hm
    refine lv_iload hx hb dX8_least_22 (lv_at hl 4 rfl) ?_
    refine lv_sipush (v := (512 : Int32)) hx hb dX8_least_24 (by decide) ?_
    refine lv_icmp_ge (tgt := 97) hx hb dX8_least_27 (by decide) (fun c6 => ?_) (fun c6 => ?_)
    · rw [if_pos c6] at hm
      have hm := Option.some.inj hm
      have e9 : x3 = v3 := (congrArg (fun q => q) hm).symm
      rw [e9] at K0
      exact K0 ls (lv_sub hl [3] rfl)
    · rw [if_neg c6] at hm
      refine lv_iload_n hx hb dX8_least_30 rfl (lv_at hl 3 rfl) ?_
      refine lv_bipush (v := (-9 : Int32)) hx hb dX8_least_31 (by decide) ?_
      obtain ⟨j7, hi8, hm⟩ := jb_out hm
      have key9 : ∀ (ls : Array Slot), lv_has ls 6 [(0, .ref oM), (1, .int v1), (2, .int v2), (3, .int v3), (4, .int v4)] → W p l e R s m args below meth c H locs cells slots Q (F0 m 55 ls [.int j7]) := by
        intro ls hl
        refine lv_istore (lv' := [(5, .int j7), (0, .ref oM), (1, .int v1), (2, .int v2), (3, .int v3), (4, .int v4)]) hx hb dX8_least_55 hl (by decide) rfl (fun ls hl => ?_)
        refine lv_iload hx hb dX8_least_57 (lv_at hl 0 rfl) ?_
        obtain ⟨j16, hi17, hm⟩ := jb_out hm
        have key18 : ∀ (ls : Array Slot), lv_has ls 6 [(0, .ref oM), (1, .int v1), (2, .int v2), (4, .int v4)] → W p l e R s m args below meth c H locs cells slots Q (F0 m 90 ls [.int j16]) := by
          intro ls hl
          refine lv_istore_n (lv' := [(3, .int j16), (0, .ref oM), (1, .int v1), (2, .int v2), (4, .int v4)]) hx hb dX8_least_90 rfl hl (by decide) rfl (fun ls hl => ?_)
          refine lv_iinc (v := (v4 + (1 : Int32))) (lv' := [(4, .int (v4 + (1 : Int32))), (3, .int j16), (0, .ref oM), (1, .int v1), (2, .int v2)]) hx hb dX8_least_91 hl (k := 4) rfl (by rfl) (by decide) rfl (fun ls hl => ?_)
          refine lv_goto (tgt := 22) hx hb dX8_least_94 (by decide) ?_
          exact ih _ _ _ hm ls (lv_sub hl [2, 3, 4, 1, 0] rfl) K0
        refine lv_if_eq (tgt := 89) hx hb dX8_least_59 (by decide) (fun c19 => ?_) (fun c19 => ?_)
        · rw [if_pos c19] at hi17
          refine lv_iload_n hx hb dX8_least_89 rfl (lv_at hl 4 rfl) ?_
          have hi17 := Option.some.inj hi17
          have e9 : j16 = v3 := (congrArg (fun q => q) hi17).symm
          rw [e9] at key18
          exact key18 ls (lv_sub hl [1, 2, 3, 5] rfl)
        · rw [if_neg c19] at hi17
          refine lv_aload_n hx hb dX8_least_62 rfl (lv_at hl 1 rfl) ?_
          refine lv_aload_n hx hb dX8_least_63 rfl (lv_at hl 1 rfl) ?_
          refine va_get (D := D) (ci := 8) (v := .ref oM1) (C := RX8) (T := TX8) (N := 19) hx hb hts tnX8 hown hK hP 0 rfl rfl 2 (by decide) (hts _ qw_103) (fun _ h9 => h9) rfl dX8_least_64 ?_
          refine lv_iload_n hx hb dX8_least_67 rfl (lv_at hl 2 rfl) ?_
          obtain ⟨g20, hi17⟩ := gd_out hi17
          refine va_lald hx hb hK hP 1 1 rfl rfl g20 dX8_least_68 ?_
          refine lv_iload hx hb dX8_least_69 (lv_at hl 5 rfl) ?_
          obtain ⟨r21, h22, hi17⟩ := jb_out hi17
          refine kX8_grown ⟨hx, hb, hml, hown, hts⟩ qw_94 hP hK h22 hl.1 ⟨Nat.le_trans (by decide) hR.1, Nat.le_trans (by decide) hR.2.1, hR.2.2⟩ (Nat.le_of_ble_eq_true rfl) dX8_least_71 ?_
          refine lv_aload_n hx hb dX8_least_74 rfl (lv_at hl 1 rfl) ?_
          refine va_get (D := D) (ci := 8) (v := .ref oM1) (C := RX8) (T := TX8) (N := 19) hx hb hts tnX8 hown hK hP 0 rfl rfl 2 (by decide) (hts _ qw_103) (fun _ h9 => h9) rfl dX8_least_75 ?_
          refine lv_iload_n hx hb dX8_least_78 rfl (lv_at hl 3 rfl) ?_
          obtain ⟨g23, hi17⟩ := gd_out hi17
          refine va_lald hx hb hK hP 1 1 rfl rfl g23 dX8_least_79 ?_
          refine W.lcmp hx hb dX8_least_80 ?_
          refine lv_if_ne (tgt := 89) hx hb dX8_least_81 (by decide) (fun c24 => ?_) (fun c24 => ?_)
          · have c24 := fun h9 => c24 ((lg_cmp_eq r21 (mpi v2.toNatClampNeg)).mpr h9)
            rw [if_neg c24] at hi17
            refine lv_iload_n hx hb dX8_least_89 rfl (lv_at hl 4 rfl) ?_
            have hi17 := Option.some.inj hi17
            have e9 : j16 = v3 := (congrArg (fun q => q) hi17).symm
            rw [e9] at key18
            exact key18 ls (lv_sub hl [1, 2, 3, 5] rfl)
          · have c24 := (lg_cmp_eq r21 (mpi v2.toNatClampNeg)).mp c24
            rw [if_pos c24] at hi17
            refine lv_iload hx hb dX8_least_84 (lv_at hl 5 rfl) ?_
            refine lv_goto (tgt := 90) hx hb dX8_least_86 (by decide) ?_
            have hi17 := Option.some.inj hi17
            have e9 : j16 = v4 := (congrArg (fun q => q) hi17).symm
            rw [e9] at key18
            exact key18 ls (lv_sub hl [1, 2, 3, 5] rfl)
      refine lv_icmp_eq (tgt := 50) hx hb dX8_least_33 (by decide) (fun c10 => ?_) (fun c10 => ?_)
      · rw [if_pos c10] at hi8
        refine lv_iconst (v := (1 : Int32)) hx hb dX8_least_50 (by decide) ?_
        refine lv_goto (tgt := 55) hx hb dX8_least_51 (by decide) ?_
        have hi8 := Option.some.inj hi8
        have e9 : j7 = (1 : Int32) := (congrArg (fun q => q) hi8).symm
        rw [e9] at key9
        exact key9 ls (lv_sub hl [0, 1, 2, 3, 4] rfl)
      · rw [if_neg c10] at hi8
        refine lv_iload hx hb dX8_least_36 (lv_at hl 4 rfl) ?_
        refine lv_i2l (v := ((v4).toInt64)) hx hb dX8_least_38 rfl ?_
        obtain ⟨r11, h12, hi8⟩ := jb_out hi8
        refine kX8_many ⟨hx, hb, hml, hown, hts⟩ qw_112 h12 hl.1 ⟨Nat.le_trans (by decide) hR.1, Nat.le_trans (by decide) hR.2.1, hR.2.2⟩ (Nat.le_of_ble_eq_true rfl) dX8_least_39 ?_
        refine lv_iload_n hx hb dX8_least_42 rfl (lv_at hl 3 rfl) ?_
        refine lv_i2l (v := ((v3).toInt64)) hx hb dX8_least_43 rfl ?_
        obtain ⟨r13, h14, hi8⟩ := jb_out hi8
        refine kX8_many ⟨hx, hb, hml, hown, hts⟩ qw_112 h14 hl.1 ⟨Nat.le_trans (by decide) hR.1, Nat.le_trans (by decide) hR.2.1, hR.2.2⟩ (Nat.le_of_ble_eq_true rfl) dX8_least_44 ?_
        refine lv_icmp_ge (tgt := 54) hx hb dX8_least_47 (by decide) (fun c15 => ?_) (fun c15 => ?_)
        · rw [if_pos c15] at hi8
          refine lv_iconst (v := (0 : Int32)) hx hb dX8_least_54 (by decide) ?_
          have hi8 := Option.some.inj hi8
          have e9 : j7 = (0 : Int32) := (congrArg (fun q => q) hi8).symm
          rw [e9] at key9
          exact key9 ls (lv_sub hl [0, 1, 2, 3, 4] rfl)
        · rw [if_neg c15] at hi8
          refine lv_iconst (v := (1 : Int32)) hx hb dX8_least_50 (by decide) ?_
          refine lv_goto (tgt := 55) hx hb dX8_least_51 (by decide) ?_
          have hi8 := Option.some.inj hi8
          have e9 : j7 = (1 : Int32) := (congrArg (fun q => q) hi8).symm
          rw [e9] at key9
          exact key9 ls (lv_sub hl [0, 1, 2, 3, 4] rfl)
set_option maxHeartbeats 4000000 in
set_option maxRecDepth 100000 in
theorem bX8_least {n : Nat} {a1 : Int32} {a2 : Int32} {r : Int32} (hx : p.tables.exec = Jvm.exec) (hb : c.code = cX8_least) (hml : c.maxLocals = 6) (hown : s.vm.findClass RX8 = some m.cls) (hts : ∀ w ∈ tw, w.before args s = true) (hK : va_K D vwCl [(cI, .int), (cJ, .long)] s) (hP : va_P D vwCl (wdM cJ cI oM oM1 oM2 oM3 oM4 oM5 oM6 oM7 oM8 oM9 oM10 oM11 mw mt mrim mjn mhm mpn mbm mgm mpi mst mam mac mro mbe mhi mmi mgr mtr mle) H) (hR : 3 ≤ R.frames ∧ 77 ≤ R.locals ∧ cells ≤ R.cells ∧ slots ≤ R.slots) (hm : mX8_least n mw mt mpi a1 a2 = some r) (ls : Array Slot) (hl : lv_has ls 6 [(0, .ref oM), (1, .int a1), (2, .int a2)]) (K : ∀ (pc : Nat) (ls : Array Slot), decode cX8_least pc = .ok (.ireturn, 1) → W p l e R s m args below meth c H locs cells slots Q (F0 m pc ls [.int r])) : W p l e R s m args below meth c H locs cells slots Q (F0 m 0 ls []) := by
  unfold mX8_least at hm
  refine lv_iload_n hx hb dX8_least_0 rfl (lv_at hl 1 rfl) ?_
  refine kX8_isPicture ⟨hx, hb, hml, hown, hts⟩ qw_101 hl.1 ⟨Nat.le_trans (by decide) hR.1, Nat.le_trans (by decide) hR.2.1, hR.2.2⟩ (Nat.le_of_ble_eq_true rfl) dX8_least_1 ?_
  refine lv_if_eq (tgt := 14) hx hb dX8_least_4 (by decide) (fun c2 => ?_) (fun c2 => ?_)
  · rw [if_pos c2] at hm
    refine lv_iconst (v := (-1 : Int32)) hx hb dX8_least_14 (by decide) ?_
    have hm := Option.some.inj hm
    subst hm
    exact K 15 ls dX8_least_15
  · rw [if_neg c2] at hm
    refine lv_iload_n hx hb dX8_least_7 rfl (lv_at hl 2 rfl) ?_
    refine kX8_isPicture ⟨hx, hb, hml, hown, hts⟩ qw_101 hl.1 ⟨Nat.le_trans (by decide) hR.1, Nat.le_trans (by decide) hR.2.1, hR.2.2⟩ (Nat.le_of_ble_eq_true rfl) dX8_least_8 ?_
    refine lv_if_ne (tgt := 16) hx hb dX8_least_11 (by decide) (fun c4 => ?_) (fun c4 => ?_)
    · rw [if_neg c4] at hm
      refine lv_bipush (v := (-9 : Int32)) hx hb dX8_least_16 (by decide) ?_
      refine lv_istore_n (lv' := [(3, .int (-9 : Int32)), (0, .ref oM), (1, .int a1), (2, .int a2)]) hx hb dX8_least_18 rfl hl (by decide) rfl (fun ls hl => ?_)
      refine lv_iconst (v := (0 : Int32)) hx hb dX8_least_19 (by decide) ?_
      refine lv_istore (lv' := [(4, .int (0 : Int32)), (3, .int (-9 : Int32)), (0, .ref oM), (1, .int a1), (2, .int a2)]) hx hb dX8_least_20 hl (by decide) rfl (fun ls hl => ?_)
      obtain ⟨y25, h26, hm⟩ := jb_out hm
      refine wX8_least_L22 hx hb hml hown hts hK hP hR n _ _ _  h26 ls (lv_sub hl [2, 3, 4, 1, 0] rfl) (fun ls hl => ?_)
      refine lv_iload_n hx hb dX8_least_97 rfl (lv_at hl 0 rfl) ?_
      have hm := Option.some.inj hm
      subst hm
      exact K 98 ls dX8_least_98
    · rw [if_pos c4] at hm
      refine lv_iconst (v := (-1 : Int32)) hx hb dX8_least_14 (by decide) ?_
      have hm := Option.some.inj hm
      subst hm
      exact K 15 ls dX8_least_15
set_option maxHeartbeats 4000000 in
set_option maxRecDepth 100000 in
theorem tX8_least (l : Launch) {D : va_G} {n : Nat} {a1 : Int32} {a2 : Int32} {r : Int32} (hm : mX8_least n mw mt mpi a1 a2 = some r) : Met l yX8_least (.code yX8_least cX8_least 6 (some .int) :: tw) ({ frames := 3, cells := 0, slots := 0, locals := 77 } : Room) (rdP D [.ref oM, .int a1, .int a2] (wdM cJ cI oM oM1 oM2 oM3 oM4 oM5 oM6 oM7 oM8 oM9 oM10 oM11 mw mt mrim mjn mhm mpn mbm mgm mpi mst mam mac mro mbe mhi mmi mgr mtr mle) [(cI, .int), (cJ, .long)]) (vp_Si (fun q => q = r)) 0 0 (fun _ => False) := by
  refine Met.ofW (cc := cX8_least) (maxL := 6) (ret := (some .int)) (by decide) rfl ?_
  intro p e s m args below meth c s₁ B hml hv
  obtain ⟨rfl, hP, hK⟩ := hv
  have hx := B.exec
  have hb := B.bytes
  have hr := B.returns
  have hts : ∀ w ∈ tw, w.before _ s = true := fun w h => atoms_spec (ws := .code yX8_least cX8_least 6 (some .int) :: tw) B.pre w (List.mem_cons_of_mem _ h)
  have hown : s.vm.findClass RX8 = some m.cls := findClass_of_methodNamed B.named
  have hlocks := B.notSynchronized
  have hl := lv_entry ([.ref oM, .int a1, .int a2]) (n := 6) (Nat.le_of_ble_eq_true rfl)
  rw [lg_entry_eq]
  generalize (lg_sl ([.ref oM, .int a1, .int a2]) ++ List.replicate (6 - (lg_sl ([.ref oM, .int a1, .int a2])).length) Slot.unset).toArray = ls at hl ⊢
  refine bX8_least hx hb hml hown hts hK hP ⟨Nat.le_of_ble_eq_true rfl, Nat.le_of_ble_eq_true rfl, Nat.zero_le _, Nat.zero_le _⟩ hm ls hl (fun pc ls hd => ?_)
  exact W.iret hx hb hr (fun t ht hW => ⟨r, rfl, rfl, ht⟩) (fun q h => by cases h) hd
set_option maxHeartbeats 4000000 in
set_option maxRecDepth 100000 in
theorem kX8_least {own : String} {cc : ByteArray} {nL idx pc : Nat} {ls : Array Slot} {rest : List Value} {n : Nat} {a1 : Int32} {a2 : Int32} {r : Int32} (fx : CallFix p m c cc nL s args tw own) (hq : Cond.methodLink own idx yX8_least ∈ tw) (hP : va_P D vwCl (wdM cJ cI oM oM1 oM2 oM3 oM4 oM5 oM6 oM7 oM8 oM9 oM10 oM11 mw mt mrim mjn mhm mpn mbm mgm mpi mst mam mac mro mbe mhi mmi mgr mtr mle) H) (hK : va_K D vwCl [(cI, .int), (cJ, .long)] s) (hm : mX8_least n mw mt mpi a1 a2 = some r) (hsz : ls.size = nL) (hR : 4 ≤ R.frames ∧ 102 ≤ R.locals ∧ cells ≤ R.cells ∧ slots ≤ R.slots) (hst : (rest.map fun v => v.category).sum ≤ 8) (hd : decode cc pc = .ok (.invokevirtual idx, 3)) (kk : W p l e R s m args below meth c H locs cells slots Q (F0 m (pc + 3) ls (.int r :: rest))) : W p l e R s m args below meth c H locs cells slots Q (F0 m pc ls (.int a2 :: .int a1 :: .ref oM :: rest)) := by
  exact vp_callSi (va_Run.run (va_runV (As := [.int a1, .int a2]) (rest := rest) fx (tX8_least l hm) (cwV 2 fx.2.2.2.2 (tw_V hq qw_168 qw_169 qw_53 qw_170) rfl rfl rfl (by decide +kernel) ⟨hR.1, hR.2.1⟩) ⟨rdP_bl, va_recv hK hP (ci := 8) (q0 := 0) rfl rfl, rdP_ok hP hK⟩ rfl rfl hsz rfl (lv_room hst) hd ⟨hR.2.2.1, hR.2.2.2⟩)) (fun r9 hr9 => by first | (rw [hr9]; exact kk) | (rw [hr9.1]; exact kk))
-- X8_isAllIn
def mX8_isAllIn (n : Nat) (mw : Int32) (a1 : Int64) (a3 : Int32) (a4 : Int32) : Option Int32 :=
  jb (mX8_boxOf n mw a3 a4) (fun (r1 : Int64) => (if (r1 &&& (a1 ^^^ (-1 : Int64))) = (0 : Int64) then (some (1 : Int32)) else (some (0 : Int32))))
theorem dX8_isAllIn_0 : decode cX8_isAllIn 0 = .ok (.aload_n 0, 1) := by decide +kernel
theorem dX8_isAllIn_1 : decode cX8_isAllIn 1 = .ok (.iload_n 3, 1) := by decide +kernel
theorem dX8_isAllIn_2 : decode cX8_isAllIn 2 = .ok (.iload 4, 2) := by decide +kernel
theorem dX8_isAllIn_4 : decode cX8_isAllIn 4 = .ok (.invokevirtual 84, 3) := by decide +kernel
theorem dX8_isAllIn_7 : decode cX8_isAllIn 7 = .ok (.lstore 5, 2) := by decide +kernel
theorem dX8_isAllIn_9 : decode cX8_isAllIn 9 = .ok (.lload 5, 2) := by decide +kernel
theorem dX8_isAllIn_11 : decode cX8_isAllIn 11 = .ok (.lload_n 1, 1) := by decide +kernel
theorem dX8_isAllIn_12 : decode cX8_isAllIn 12 = .ok (.ldc2_w 82, 3) := by decide +kernel
theorem dX8_isAllIn_15 : decode cX8_isAllIn 15 = .ok (.lxor, 1) := by decide +kernel
theorem dX8_isAllIn_16 : decode cX8_isAllIn 16 = .ok (.land, 1) := by decide +kernel
theorem dX8_isAllIn_17 : decode cX8_isAllIn 17 = .ok (.lconst 0, 1) := by decide +kernel
theorem dX8_isAllIn_18 : decode cX8_isAllIn 18 = .ok (.lcmp, 1) := by decide +kernel
theorem dX8_isAllIn_19 : decode cX8_isAllIn 19 = .ok (.ifCond .ne 7, 3) := by decide +kernel
theorem dX8_isAllIn_22 : decode cX8_isAllIn 22 = .ok (.iconst 1, 1) := by decide +kernel
theorem dX8_isAllIn_23 : decode cX8_isAllIn 23 = .ok (.goto 4, 3) := by decide +kernel
theorem dX8_isAllIn_26 : decode cX8_isAllIn 26 = .ok (.iconst 0, 1) := by decide +kernel
theorem dX8_isAllIn_27 : decode cX8_isAllIn 27 = .ok (.ireturn, 1) := by decide +kernel
set_option maxHeartbeats 4000000 in
set_option maxRecDepth 100000 in
theorem bX8_isAllIn {n : Nat} {a1 : Int64} {a3 : Int32} {a4 : Int32} {r : Int32} (hx : p.tables.exec = Jvm.exec) (hb : c.code = cX8_isAllIn) (hml : c.maxLocals = 7) (hown : s.vm.findClass RX8 = some m.cls) (hts : ∀ w ∈ tw, w.before args s = true) (hK : va_K D vwCl [(cI, .int), (cJ, .long)] s) (hP : va_P D vwCl (wdM cJ cI oM oM1 oM2 oM3 oM4 oM5 oM6 oM7 oM8 oM9 oM10 oM11 mw mt mrim mjn mhm mpn mbm mgm mpi mst mam mac mro mbe mhi mmi mgr mtr mle) H) (hR : 2 ≤ R.frames ∧ 50 ≤ R.locals ∧ cells ≤ R.cells ∧ slots ≤ R.slots) (hm : mX8_isAllIn n mw a1 a3 a4 = some r) (ls : Array Slot) (hl : lv_has ls 7 [(0, .ref oM), (1, .long a1), (3, .int a3), (4, .int a4)]) (K : ∀ (pc : Nat) (ls : Array Slot), decode cX8_isAllIn pc = .ok (.ireturn, 1) → narrow .boolean (.int r) = .int r → W p l e R s m args below meth c H locs cells slots Q (F0 m pc ls [.int r])) : W p l e R s m args below meth c H locs cells slots Q (F0 m 0 ls []) := by
  unfold mX8_isAllIn at hm
  refine lv_aload_n hx hb dX8_isAllIn_0 rfl (lv_at hl 0 rfl) ?_
  refine lv_iload_n hx hb dX8_isAllIn_1 rfl (lv_at hl 2 rfl) ?_
  refine lv_iload hx hb dX8_isAllIn_2 (lv_at hl 3 rfl) ?_
  obtain ⟨r1, h2, hm⟩ := jb_out hm
  refine kX8_boxOf ⟨hx, hb, hml, hown, hts⟩ qw_171 hP hK h2 hl.1 ⟨Nat.le_trans (by decide) hR.1, Nat.le_trans (by decide) hR.2.1, hR.2.2⟩ (Nat.le_of_ble_eq_true rfl) dX8_isAllIn_4 ?_
  refine lv_lstore (lv' := [(5, .long r1), (0, .ref oM), (1, .long a1), (3, .int a3), (4, .int a4)]) hx hb dX8_isAllIn_7 hl (by decide) rfl (fun ls hl => ?_)
  refine lv_lload hx hb dX8_isAllIn_9 (lv_at hl 0 rfl) ?_
  refine lv_lload_n hx hb dX8_isAllIn_11 rfl (lv_at hl 2 rfl) ?_
  refine lv_ldc2 (v := (-1 : Int64)) hx hb hown (hts _ qw_97) dX8_isAllIn_12 ?_
  refine lv_lxor hx hb dX8_isAllIn_15 ?_
  refine lv_land hx hb dX8_isAllIn_16 ?_
  refine lv_lconst (v := (0 : Int64)) hx hb dX8_isAllIn_17 (by decide) ?_
  refine W.lcmp hx hb dX8_isAllIn_18 ?_
  refine lv_if_ne (tgt := 26) hx hb dX8_isAllIn_19 (by decide) (fun c3 => ?_) (fun c3 => ?_)
  · have c3 := fun h9 => c3 ((lg_cmp_eq (r1 &&& (a1 ^^^ (-1 : Int64))) (0 : Int64)).mpr h9)
    rw [if_neg c3] at hm
    refine lv_iconst (v := (0 : Int32)) hx hb dX8_isAllIn_26 (by decide) ?_
    have hm := Option.some.inj hm
    subst hm
    exact K 27 ls dX8_isAllIn_27 rfl
  · have c3 := (lg_cmp_eq (r1 &&& (a1 ^^^ (-1 : Int64))) (0 : Int64)).mp c3
    rw [if_pos c3] at hm
    refine lv_iconst (v := (1 : Int32)) hx hb dX8_isAllIn_22 (by decide) ?_
    refine lv_goto (tgt := 27) hx hb dX8_isAllIn_23 (by decide) ?_
    have hm := Option.some.inj hm
    subst hm
    exact K 27 ls dX8_isAllIn_27 rfl
set_option maxHeartbeats 4000000 in
set_option maxRecDepth 100000 in
theorem tX8_isAllIn (l : Launch) {D : va_G} {n : Nat} {a1 : Int64} {a3 : Int32} {a4 : Int32} {r : Int32} (hm : mX8_isAllIn n mw a1 a3 a4 = some r) : Met l yX8_isAllIn (.code yX8_isAllIn cX8_isAllIn 7 (some .boolean) :: tw) ({ frames := 2, cells := 0, slots := 0, locals := 50 } : Room) (rdP D [.ref oM, .long a1, .int a3, .int a4] (wdM cJ cI oM oM1 oM2 oM3 oM4 oM5 oM6 oM7 oM8 oM9 oM10 oM11 mw mt mrim mjn mhm mpn mbm mgm mpi mst mam mac mro mbe mhi mmi mgr mtr mle) [(cI, .int), (cJ, .long)]) (vp_Si (fun q => q = r ∧ narrow .boolean (.int q) = .int q)) 0 0 (fun _ => False) := by
  refine Met.ofW (cc := cX8_isAllIn) (maxL := 7) (ret := (some .boolean)) (by decide) rfl ?_
  intro p e s m args below meth c s₁ B hml hv
  obtain ⟨rfl, hP, hK⟩ := hv
  have hx := B.exec
  have hb := B.bytes
  have hr := B.returns
  have hts : ∀ w ∈ tw, w.before _ s = true := fun w h => atoms_spec (ws := .code yX8_isAllIn cX8_isAllIn 7 (some .boolean) :: tw) B.pre w (List.mem_cons_of_mem _ h)
  have hown : s.vm.findClass RX8 = some m.cls := findClass_of_methodNamed B.named
  have hlocks := B.notSynchronized
  have hl := lv_entry ([.ref oM, .long a1, .int a3, .int a4]) (n := 7) (Nat.le_of_ble_eq_true rfl)
  rw [lg_entry_eq]
  generalize (lg_sl ([.ref oM, .long a1, .int a3, .int a4]) ++ List.replicate (7 - (lg_sl ([.ref oM, .long a1, .int a3, .int a4])).length) Slot.unset).toArray = ls at hl ⊢
  refine bX8_isAllIn hx hb hml hown hts hK hP ⟨Nat.le_of_ble_eq_true rfl, Nat.le_of_ble_eq_true rfl, Nat.zero_le _, Nat.zero_le _⟩ hm ls hl (fun pc ls hd hz => ?_)
  exact W.zret hx hb hr hz (fun t ht hW => ⟨r, rfl, ⟨rfl, hz⟩, ht⟩) (fun q h => by cases h) hd
set_option maxHeartbeats 4000000 in
set_option maxRecDepth 100000 in
theorem kX8_isAllIn {own : String} {cc : ByteArray} {nL idx pc : Nat} {ls : Array Slot} {rest : List Value} {n : Nat} {a1 : Int64} {a3 : Int32} {a4 : Int32} {r : Int32} (fx : CallFix p m c cc nL s args tw own) (hq : Cond.methodLink own idx yX8_isAllIn ∈ tw) (hP : va_P D vwCl (wdM cJ cI oM oM1 oM2 oM3 oM4 oM5 oM6 oM7 oM8 oM9 oM10 oM11 mw mt mrim mjn mhm mpn mbm mgm mpi mst mam mac mro mbe mhi mmi mgr mtr mle) H) (hK : va_K D vwCl [(cI, .int), (cJ, .long)] s) (hm : mX8_isAllIn n mw a1 a3 a4 = some r) (hsz : ls.size = nL) (hR : 3 ≤ R.frames ∧ 76 ≤ R.locals ∧ cells ≤ R.cells ∧ slots ≤ R.slots) (hst : (rest.map fun v => v.category).sum ≤ 8) (hd : decode cc pc = .ok (.invokevirtual idx, 3)) (kk : W p l e R s m args below meth c H locs cells slots Q (F0 m (pc + 3) ls (.int r :: rest))) : W p l e R s m args below meth c H locs cells slots Q (F0 m pc ls (.int a4 :: .int a3 :: .long a1 :: .ref oM :: rest)) := by
  exact vp_callSi (va_Run.run (va_runV (As := [.long a1, .int a3, .int a4]) (rest := rest) fx (tX8_isAllIn l hm) (cwV 3 fx.2.2.2.2 (tw_V hq qw_172 qw_173 qw_53 qw_174) rfl rfl rfl (by decide +kernel) ⟨hR.1, hR.2.1⟩) ⟨rdP_bl, va_recv hK hP (ci := 8) (q0 := 0) rfl rfl, rdP_ok hP hK⟩ rfl rfl hsz rfl (lv_room hst) hd ⟨hR.2.2.1, hR.2.2.2⟩)) (fun r9 hr9 => by first | (rw [hr9]; exact kk) | (rw [hr9.1]; exact kk))
-- X8_isWithin
def mX8_isWithin (n : Nat) (mw : Int32) (mt : Int32) (a1 : Int64) (a3 : Int32) (a4 : Int32) : Option Int32 :=
  gd (¬ mw = 0) (gd (¬ mw = 0) (gd (¬ mw = 0) (gd (¬ mw = 0) (jb (if (jrem a3 mw) ≤ 0 then (some ((0 : Int32))) else jb (mX8_isAllIn n mw a1 (a3 - (1 : Int32)) ((((a4 / mw) * mw) + (jrem a3 mw)) - (1 : Int32))) (fun (r9 : Int32) => (if r9 = 0 then (some ((0 : Int32))) else (some ((1 : Int32)))))) (fun (j5 : Int32) => jb (if (mw - (1 : Int32)) ≤ (jrem a4 mw) then (some ((0 : Int32))) else jb (mX8_isAllIn n mw a1 ((((a3 / mw) * mw) + (jrem a4 mw)) + (1 : Int32)) (a4 + (1 : Int32))) (fun (r16 : Int32) => (if r16 = 0 then (some ((0 : Int32))) else (some ((1 : Int32)))))) (fun (j12 : Int32) => jb (if (a3 / mw) ≤ 0 then (some ((0 : Int32))) else jb (mX8_isAllIn n mw a1 (a3 - mw) ((((a3 / mw) - (1 : Int32)) * mw) + (jrem a4 mw))) (fun (r23 : Int32) => (if r23 = 0 then (some ((0 : Int32))) else (some ((1 : Int32)))))) (fun (j19 : Int32) => jb (if (mt - (1 : Int32)) ≤ (a4 / mw) then (some ((0 : Int32))) else jb (mX8_isAllIn n mw a1 ((((a4 / mw) + (1 : Int32)) * mw) + (jrem a3 mw)) (a4 + mw)) (fun (r30 : Int32) => (if r30 = 0 then (some ((0 : Int32))) else (some ((1 : Int32)))))) (fun (j26 : Int32) => (if j5 = 0 then (if j12 = 0 then (if j19 = 0 then (if j26 = 0 then (some (0 : Int32)) else (some (1 : Int32))) else (some (1 : Int32))) else (some (1 : Int32))) else (some (1 : Int32)))))))))))
theorem dX8_isWithin_0 : decode cX8_isWithin 0 = .ok (.iload_n 3, 1) := by decide +kernel
theorem dX8_isWithin_1 : decode cX8_isWithin 1 = .ok (.aload_n 0, 1) := by decide +kernel
theorem dX8_isWithin_2 : decode cX8_isWithin 2 = .ok (.getfield 7, 3) := by decide +kernel
theorem dX8_isWithin_5 : decode cX8_isWithin 5 = .ok (.irem, 1) := by decide +kernel
theorem dX8_isWithin_6 : decode cX8_isWithin 6 = .ok (.istore 5, 2) := by decide +kernel
theorem dX8_isWithin_8 : decode cX8_isWithin 8 = .ok (.iload_n 3, 1) := by decide +kernel
theorem dX8_isWithin_9 : decode cX8_isWithin 9 = .ok (.aload_n 0, 1) := by decide +kernel
theorem dX8_isWithin_10 : decode cX8_isWithin 10 = .ok (.getfield 7, 3) := by decide +kernel
theorem dX8_isWithin_13 : decode cX8_isWithin 13 = .ok (.idiv, 1) := by decide +kernel
theorem dX8_isWithin_14 : decode cX8_isWithin 14 = .ok (.istore 6, 2) := by decide +kernel
theorem dX8_isWithin_16 : decode cX8_isWithin 16 = .ok (.iload 4, 2) := by decide +kernel
theorem dX8_isWithin_18 : decode cX8_isWithin 18 = .ok (.aload_n 0, 1) := by decide +kernel
theorem dX8_isWithin_19 : decode cX8_isWithin 19 = .ok (.getfield 7, 3) := by decide +kernel
theorem dX8_isWithin_22 : decode cX8_isWithin 22 = .ok (.irem, 1) := by decide +kernel
theorem dX8_isWithin_23 : decode cX8_isWithin 23 = .ok (.istore 7, 2) := by decide +kernel
theorem dX8_isWithin_25 : decode cX8_isWithin 25 = .ok (.iload 4, 2) := by decide +kernel
theorem dX8_isWithin_27 : decode cX8_isWithin 27 = .ok (.aload_n 0, 1) := by decide +kernel
theorem dX8_isWithin_28 : decode cX8_isWithin 28 = .ok (.getfield 7, 3) := by decide +kernel
theorem dX8_isWithin_31 : decode cX8_isWithin 31 = .ok (.idiv, 1) := by decide +kernel
theorem dX8_isWithin_32 : decode cX8_isWithin 32 = .ok (.istore 8, 2) := by decide +kernel
theorem dX8_isWithin_34 : decode cX8_isWithin 34 = .ok (.iload 5, 2) := by decide +kernel
theorem dX8_isWithin_36 : decode cX8_isWithin 36 = .ok (.ifCond .le 30, 3) := by decide +kernel
theorem dX8_isWithin_39 : decode cX8_isWithin 39 = .ok (.aload_n 0, 1) := by decide +kernel
theorem dX8_isWithin_40 : decode cX8_isWithin 40 = .ok (.lload_n 1, 1) := by decide +kernel
theorem dX8_isWithin_41 : decode cX8_isWithin 41 = .ok (.iload_n 3, 1) := by decide +kernel
theorem dX8_isWithin_42 : decode cX8_isWithin 42 = .ok (.iconst 1, 1) := by decide +kernel
theorem dX8_isWithin_43 : decode cX8_isWithin 43 = .ok (.isub, 1) := by decide +kernel
theorem dX8_isWithin_44 : decode cX8_isWithin 44 = .ok (.iload 8, 2) := by decide +kernel
theorem dX8_isWithin_46 : decode cX8_isWithin 46 = .ok (.aload_n 0, 1) := by decide +kernel
theorem dX8_isWithin_47 : decode cX8_isWithin 47 = .ok (.getfield 7, 3) := by decide +kernel
theorem dX8_isWithin_50 : decode cX8_isWithin 50 = .ok (.imul, 1) := by decide +kernel
theorem dX8_isWithin_51 : decode cX8_isWithin 51 = .ok (.iload 5, 2) := by decide +kernel
theorem dX8_isWithin_53 : decode cX8_isWithin 53 = .ok (.iadd, 1) := by decide +kernel
theorem dX8_isWithin_54 : decode cX8_isWithin 54 = .ok (.iconst 1, 1) := by decide +kernel
theorem dX8_isWithin_55 : decode cX8_isWithin 55 = .ok (.isub, 1) := by decide +kernel
theorem dX8_isWithin_56 : decode cX8_isWithin 56 = .ok (.invokevirtual 165, 3) := by decide +kernel
theorem dX8_isWithin_59 : decode cX8_isWithin 59 = .ok (.ifCond .eq 7, 3) := by decide +kernel
theorem dX8_isWithin_62 : decode cX8_isWithin 62 = .ok (.iconst 1, 1) := by decide +kernel
theorem dX8_isWithin_63 : decode cX8_isWithin 63 = .ok (.goto 4, 3) := by decide +kernel
theorem dX8_isWithin_66 : decode cX8_isWithin 66 = .ok (.iconst 0, 1) := by decide +kernel
theorem dX8_isWithin_67 : decode cX8_isWithin 67 = .ok (.istore 9, 2) := by decide +kernel
theorem dX8_isWithin_69 : decode cX8_isWithin 69 = .ok (.iload 7, 2) := by decide +kernel
theorem dX8_isWithin_71 : decode cX8_isWithin 71 = .ok (.aload_n 0, 1) := by decide +kernel
theorem dX8_isWithin_72 : decode cX8_isWithin 72 = .ok (.getfield 7, 3) := by decide +kernel
theorem dX8_isWithin_75 : decode cX8_isWithin 75 = .ok (.iconst 1, 1) := by decide +kernel
theorem dX8_isWithin_76 : decode cX8_isWithin 76 = .ok (.isub, 1) := by decide +kernel
theorem dX8_isWithin_77 : decode cX8_isWithin 77 = .ok (.if_icmp .ge 31, 3) := by decide +kernel
theorem dX8_isWithin_80 : decode cX8_isWithin 80 = .ok (.aload_n 0, 1) := by decide +kernel
theorem dX8_isWithin_81 : decode cX8_isWithin 81 = .ok (.lload_n 1, 1) := by decide +kernel
theorem dX8_isWithin_82 : decode cX8_isWithin 82 = .ok (.iload 6, 2) := by decide +kernel
theorem dX8_isWithin_84 : decode cX8_isWithin 84 = .ok (.aload_n 0, 1) := by decide +kernel
theorem dX8_isWithin_85 : decode cX8_isWithin 85 = .ok (.getfield 7, 3) := by decide +kernel
theorem dX8_isWithin_88 : decode cX8_isWithin 88 = .ok (.imul, 1) := by decide +kernel
theorem dX8_isWithin_89 : decode cX8_isWithin 89 = .ok (.iload 7, 2) := by decide +kernel
theorem dX8_isWithin_91 : decode cX8_isWithin 91 = .ok (.iadd, 1) := by decide +kernel
theorem dX8_isWithin_92 : decode cX8_isWithin 92 = .ok (.iconst 1, 1) := by decide +kernel
theorem dX8_isWithin_93 : decode cX8_isWithin 93 = .ok (.iadd, 1) := by decide +kernel
theorem dX8_isWithin_94 : decode cX8_isWithin 94 = .ok (.iload 4, 2) := by decide +kernel
theorem dX8_isWithin_96 : decode cX8_isWithin 96 = .ok (.iconst 1, 1) := by decide +kernel
theorem dX8_isWithin_97 : decode cX8_isWithin 97 = .ok (.iadd, 1) := by decide +kernel
theorem dX8_isWithin_98 : decode cX8_isWithin 98 = .ok (.invokevirtual 165, 3) := by decide +kernel
theorem dX8_isWithin_101 : decode cX8_isWithin 101 = .ok (.ifCond .eq 7, 3) := by decide +kernel
theorem dX8_isWithin_104 : decode cX8_isWithin 104 = .ok (.iconst 1, 1) := by decide +kernel
theorem dX8_isWithin_105 : decode cX8_isWithin 105 = .ok (.goto 4, 3) := by decide +kernel
theorem dX8_isWithin_108 : decode cX8_isWithin 108 = .ok (.iconst 0, 1) := by decide +kernel
theorem dX8_isWithin_109 : decode cX8_isWithin 109 = .ok (.istore 10, 2) := by decide +kernel
theorem dX8_isWithin_111 : decode cX8_isWithin 111 = .ok (.iload 6, 2) := by decide +kernel
theorem dX8_isWithin_113 : decode cX8_isWithin 113 = .ok (.ifCond .le 33, 3) := by decide +kernel
theorem dX8_isWithin_116 : decode cX8_isWithin 116 = .ok (.aload_n 0, 1) := by decide +kernel
theorem dX8_isWithin_117 : decode cX8_isWithin 117 = .ok (.lload_n 1, 1) := by decide +kernel
theorem dX8_isWithin_118 : decode cX8_isWithin 118 = .ok (.iload_n 3, 1) := by decide +kernel
theorem dX8_isWithin_119 : decode cX8_isWithin 119 = .ok (.aload_n 0, 1) := by decide +kernel
theorem dX8_isWithin_120 : decode cX8_isWithin 120 = .ok (.getfield 7, 3) := by decide +kernel
theorem dX8_isWithin_123 : decode cX8_isWithin 123 = .ok (.isub, 1) := by decide +kernel
theorem dX8_isWithin_124 : decode cX8_isWithin 124 = .ok (.iload 6, 2) := by decide +kernel
theorem dX8_isWithin_126 : decode cX8_isWithin 126 = .ok (.iconst 1, 1) := by decide +kernel
theorem dX8_isWithin_127 : decode cX8_isWithin 127 = .ok (.isub, 1) := by decide +kernel
theorem dX8_isWithin_128 : decode cX8_isWithin 128 = .ok (.aload_n 0, 1) := by decide +kernel
theorem dX8_isWithin_129 : decode cX8_isWithin 129 = .ok (.getfield 7, 3) := by decide +kernel
theorem dX8_isWithin_132 : decode cX8_isWithin 132 = .ok (.imul, 1) := by decide +kernel
theorem dX8_isWithin_133 : decode cX8_isWithin 133 = .ok (.iload 7, 2) := by decide +kernel
theorem dX8_isWithin_135 : decode cX8_isWithin 135 = .ok (.iadd, 1) := by decide +kernel
theorem dX8_isWithin_136 : decode cX8_isWithin 136 = .ok (.invokevirtual 165, 3) := by decide +kernel
theorem dX8_isWithin_139 : decode cX8_isWithin 139 = .ok (.ifCond .eq 7, 3) := by decide +kernel
theorem dX8_isWithin_142 : decode cX8_isWithin 142 = .ok (.iconst 1, 1) := by decide +kernel
theorem dX8_isWithin_143 : decode cX8_isWithin 143 = .ok (.goto 4, 3) := by decide +kernel
theorem dX8_isWithin_146 : decode cX8_isWithin 146 = .ok (.iconst 0, 1) := by decide +kernel
theorem dX8_isWithin_147 : decode cX8_isWithin 147 = .ok (.istore 11, 2) := by decide +kernel
theorem dX8_isWithin_149 : decode cX8_isWithin 149 = .ok (.iload 8, 2) := by decide +kernel
theorem dX8_isWithin_151 : decode cX8_isWithin 151 = .ok (.aload_n 0, 1) := by decide +kernel
theorem dX8_isWithin_152 : decode cX8_isWithin 152 = .ok (.getfield 13, 3) := by decide +kernel
theorem dX8_isWithin_155 : decode cX8_isWithin 155 = .ok (.iconst 1, 1) := by decide +kernel
theorem dX8_isWithin_156 : decode cX8_isWithin 156 = .ok (.isub, 1) := by decide +kernel
theorem dX8_isWithin_157 : decode cX8_isWithin 157 = .ok (.if_icmp .ge 34, 3) := by decide +kernel
theorem dX8_isWithin_160 : decode cX8_isWithin 160 = .ok (.aload_n 0, 1) := by decide +kernel
theorem dX8_isWithin_161 : decode cX8_isWithin 161 = .ok (.lload_n 1, 1) := by decide +kernel
theorem dX8_isWithin_162 : decode cX8_isWithin 162 = .ok (.iload 8, 2) := by decide +kernel
theorem dX8_isWithin_164 : decode cX8_isWithin 164 = .ok (.iconst 1, 1) := by decide +kernel
theorem dX8_isWithin_165 : decode cX8_isWithin 165 = .ok (.iadd, 1) := by decide +kernel
theorem dX8_isWithin_166 : decode cX8_isWithin 166 = .ok (.aload_n 0, 1) := by decide +kernel
theorem dX8_isWithin_167 : decode cX8_isWithin 167 = .ok (.getfield 7, 3) := by decide +kernel
theorem dX8_isWithin_170 : decode cX8_isWithin 170 = .ok (.imul, 1) := by decide +kernel
theorem dX8_isWithin_171 : decode cX8_isWithin 171 = .ok (.iload 5, 2) := by decide +kernel
theorem dX8_isWithin_173 : decode cX8_isWithin 173 = .ok (.iadd, 1) := by decide +kernel
theorem dX8_isWithin_174 : decode cX8_isWithin 174 = .ok (.iload 4, 2) := by decide +kernel
theorem dX8_isWithin_176 : decode cX8_isWithin 176 = .ok (.aload_n 0, 1) := by decide +kernel
theorem dX8_isWithin_177 : decode cX8_isWithin 177 = .ok (.getfield 7, 3) := by decide +kernel
theorem dX8_isWithin_180 : decode cX8_isWithin 180 = .ok (.iadd, 1) := by decide +kernel
theorem dX8_isWithin_181 : decode cX8_isWithin 181 = .ok (.invokevirtual 165, 3) := by decide +kernel
theorem dX8_isWithin_184 : decode cX8_isWithin 184 = .ok (.ifCond .eq 7, 3) := by decide +kernel
theorem dX8_isWithin_187 : decode cX8_isWithin 187 = .ok (.iconst 1, 1) := by decide +kernel
theorem dX8_isWithin_188 : decode cX8_isWithin 188 = .ok (.goto 4, 3) := by decide +kernel
theorem dX8_isWithin_191 : decode cX8_isWithin 191 = .ok (.iconst 0, 1) := by decide +kernel
theorem dX8_isWithin_192 : decode cX8_isWithin 192 = .ok (.istore 12, 2) := by decide +kernel
theorem dX8_isWithin_194 : decode cX8_isWithin 194 = .ok (.iload 9, 2) := by decide +kernel
theorem dX8_isWithin_196 : decode cX8_isWithin 196 = .ok (.ifCond .ne 18, 3) := by decide +kernel
theorem dX8_isWithin_199 : decode cX8_isWithin 199 = .ok (.iload 10, 2) := by decide +kernel
theorem dX8_isWithin_201 : decode cX8_isWithin 201 = .ok (.ifCond .ne 13, 3) := by decide +kernel
theorem dX8_isWithin_204 : decode cX8_isWithin 204 = .ok (.iload 11, 2) := by decide +kernel
theorem dX8_isWithin_206 : decode cX8_isWithin 206 = .ok (.ifCond .ne 8, 3) := by decide +kernel
theorem dX8_isWithin_209 : decode cX8_isWithin 209 = .ok (.iload 12, 2) := by decide +kernel
theorem dX8_isWithin_211 : decode cX8_isWithin 211 = .ok (.ifCond .eq 7, 3) := by decide +kernel
theorem dX8_isWithin_214 : decode cX8_isWithin 214 = .ok (.iconst 1, 1) := by decide +kernel
theorem dX8_isWithin_215 : decode cX8_isWithin 215 = .ok (.goto 4, 3) := by decide +kernel
theorem dX8_isWithin_218 : decode cX8_isWithin 218 = .ok (.iconst 0, 1) := by decide +kernel
theorem dX8_isWithin_219 : decode cX8_isWithin 219 = .ok (.ireturn, 1) := by decide +kernel
set_option maxHeartbeats 4000000 in
set_option maxRecDepth 100000 in
theorem bX8_isWithin {n : Nat} {a1 : Int64} {a3 : Int32} {a4 : Int32} {r : Int32} (hx : p.tables.exec = Jvm.exec) (hb : c.code = cX8_isWithin) (hml : c.maxLocals = 13) (hown : s.vm.findClass RX8 = some m.cls) (hts : ∀ w ∈ tw, w.before args s = true) (hK : va_K D vwCl [(cI, .int), (cJ, .long)] s) (hP : va_P D vwCl (wdM cJ cI oM oM1 oM2 oM3 oM4 oM5 oM6 oM7 oM8 oM9 oM10 oM11 mw mt mrim mjn mhm mpn mbm mgm mpi mst mam mac mro mbe mhi mmi mgr mtr mle) H) (hR : 3 ≤ R.frames ∧ 76 ≤ R.locals ∧ cells ≤ R.cells ∧ slots ≤ R.slots) (hm : mX8_isWithin n mw mt a1 a3 a4 = some r) (ls : Array Slot) (hl : lv_has ls 13 [(0, .ref oM), (1, .long a1), (3, .int a3), (4, .int a4)]) (K : ∀ (pc : Nat) (ls : Array Slot), decode cX8_isWithin pc = .ok (.ireturn, 1) → narrow .boolean (.int r) = .int r → W p l e R s m args below meth c H locs cells slots Q (F0 m pc ls [.int r])) : W p l e R s m args below meth c H locs cells slots Q (F0 m 0 ls []) := by
  unfold mX8_isWithin at hm
  refine lv_iload_n hx hb dX8_isWithin_0 rfl (lv_at hl 2 rfl) ?_
  refine lv_aload_n hx hb dX8_isWithin_1 rfl (lv_at hl 0 rfl) ?_
  refine va_get (D := D) (ci := 8) (v := .int mw) (C := RX8) (T := TX8) (N := 19) hx hb hts tnX8 hown hK hP 0 rfl rfl 0 (by decide) (hts _ qw_55) (fun _ h9 => h9) rfl dX8_isWithin_2 ?_
  obtain ⟨g1, hm⟩ := gd_out hm
  refine lv_irem hx hb dX8_isWithin_5 g1 ?_
  refine lv_istore (lv' := [(5, .int (jrem a3 mw)), (0, .ref oM), (1, .long a1), (3, .int a3), (4, .int a4)]) hx hb dX8_isWithin_6 hl (by decide) rfl (fun ls hl => ?_)
  refine lv_iload_n hx hb dX8_isWithin_8 rfl (lv_at hl 3 rfl) ?_
  refine lv_aload_n hx hb dX8_isWithin_9 rfl (lv_at hl 1 rfl) ?_
  refine va_get (D := D) (ci := 8) (v := .int mw) (C := RX8) (T := TX8) (N := 19) hx hb hts tnX8 hown hK hP 0 rfl rfl 0 (by decide) (hts _ qw_55) (fun _ h9 => h9) rfl dX8_isWithin_10 ?_
  obtain ⟨g2, hm⟩ := gd_out hm
  refine lv_idiv hx hb dX8_isWithin_13 g2 ?_
  refine lv_istore (lv' := [(6, .int (a3 / mw)), (5, .int (jrem a3 mw)), (0, .ref oM), (1, .long a1), (3, .int a3), (4, .int a4)]) hx hb dX8_isWithin_14 hl (by decide) rfl (fun ls hl => ?_)
  refine lv_iload hx hb dX8_isWithin_16 (lv_at hl 5 rfl) ?_
  refine lv_aload_n hx hb dX8_isWithin_18 rfl (lv_at hl 2 rfl) ?_
  refine va_get (D := D) (ci := 8) (v := .int mw) (C := RX8) (T := TX8) (N := 19) hx hb hts tnX8 hown hK hP 0 rfl rfl 0 (by decide) (hts _ qw_55) (fun _ h9 => h9) rfl dX8_isWithin_19 ?_
  obtain ⟨g3, hm⟩ := gd_out hm
  refine lv_irem hx hb dX8_isWithin_22 g3 ?_
  refine lv_istore (lv' := [(7, .int (jrem a4 mw)), (6, .int (a3 / mw)), (5, .int (jrem a3 mw)), (0, .ref oM), (1, .long a1), (3, .int a3), (4, .int a4)]) hx hb dX8_isWithin_23 hl (by decide) rfl (fun ls hl => ?_)
  refine lv_iload hx hb dX8_isWithin_25 (lv_at hl 6 rfl) ?_
  refine lv_aload_n hx hb dX8_isWithin_27 rfl (lv_at hl 3 rfl) ?_
  refine va_get (D := D) (ci := 8) (v := .int mw) (C := RX8) (T := TX8) (N := 19) hx hb hts tnX8 hown hK hP 0 rfl rfl 0 (by decide) (hts _ qw_55) (fun _ h9 => h9) rfl dX8_isWithin_28 ?_
  obtain ⟨g4, hm⟩ := gd_out hm
  refine lv_idiv hx hb dX8_isWithin_31 g4 ?_
  refine lv_istore (lv' := [(8, .int (a4 / mw)), (7, .int (jrem a4 mw)), (6, .int (a3 / mw)), (5, .int (jrem a3 mw)), (0, .ref oM), (1, .long a1), (3, .int a3), (4, .int a4)]) hx hb dX8_isWithin_32 hl (by decide) rfl (fun ls hl => ?_)
  refine lv_iload hx hb dX8_isWithin_34 (lv_at hl 3 rfl) ?_
  obtain ⟨j5, hi6, hm⟩ := jb_out hm
  have key7 : ∀ (ls : Array Slot), lv_has ls 13 [(8, .int (a4 / mw)), (7, .int (jrem a4 mw)), (6, .int (a3 / mw)), (5, .int (jrem a3 mw)), (0, .ref oM), (1, .long a1), (3, .int a3), (4, .int a4)] → W p l e R s m args below meth c H locs cells slots Q (F0 m 67 ls [.int j5]) := by
    intro ls hl
    refine lv_istore (lv' := [(9, .int j5), (8, .int (a4 / mw)), (7, .int (jrem a4 mw)), (6, .int (a3 / mw)), (5, .int (jrem a3 mw)), (0, .ref oM), (1, .long a1), (3, .int a3), (4, .int a4)]) hx hb dX8_isWithin_67 hl (by decide) rfl (fun ls hl => ?_)
    refine lv_iload hx hb dX8_isWithin_69 (lv_at hl 2 rfl) ?_
    refine lv_aload_n hx hb dX8_isWithin_71 rfl (lv_at hl 5 rfl) ?_
    refine va_get (D := D) (ci := 8) (v := .int mw) (C := RX8) (T := TX8) (N := 19) hx hb hts tnX8 hown hK hP 0 rfl rfl 0 (by decide) (hts _ qw_55) (fun _ h9 => h9) rfl dX8_isWithin_72 ?_
    refine lv_iconst (v := (1 : Int32)) hx hb dX8_isWithin_75 (by decide) ?_
    refine lv_isub hx hb dX8_isWithin_76 ?_
    obtain ⟨j12, hi13, hm⟩ := jb_out hm
    have key14 : ∀ (ls : Array Slot), lv_has ls 13 [(9, .int j5), (8, .int (a4 / mw)), (7, .int (jrem a4 mw)), (6, .int (a3 / mw)), (5, .int (jrem a3 mw)), (0, .ref oM), (1, .long a1), (3, .int a3), (4, .int a4)] → W p l e R s m args below meth c H locs cells slots Q (F0 m 109 ls [.int j12]) := by
      intro ls hl
      refine lv_istore (lv' := [(10, .int j12), (9, .int j5), (8, .int (a4 / mw)), (7, .int (jrem a4 mw)), (6, .int (a3 / mw)), (5, .int (jrem a3 mw)), (0, .ref oM), (1, .long a1), (3, .int a3), (4, .int a4)]) hx hb dX8_isWithin_109 hl (by decide) rfl (fun ls hl => ?_)
      refine lv_iload hx hb dX8_isWithin_111 (lv_at hl 4 rfl) ?_
      obtain ⟨j19, hi20, hm⟩ := jb_out hm
      have key21 : ∀ (ls : Array Slot), lv_has ls 13 [(10, .int j12), (9, .int j5), (8, .int (a4 / mw)), (5, .int (jrem a3 mw)), (0, .ref oM), (1, .long a1), (4, .int a4)] → W p l e R s m args below meth c H locs cells slots Q (F0 m 147 ls [.int j19]) := by
        intro ls hl
        refine lv_istore (lv' := [(11, .int j19), (10, .int j12), (9, .int j5), (8, .int (a4 / mw)), (5, .int (jrem a3 mw)), (0, .ref oM), (1, .long a1), (4, .int a4)]) hx hb dX8_isWithin_147 hl (by decide) rfl (fun ls hl => ?_)
        refine lv_iload hx hb dX8_isWithin_149 (lv_at hl 3 rfl) ?_
        refine lv_aload_n hx hb dX8_isWithin_151 rfl (lv_at hl 5 rfl) ?_
        refine va_get (D := D) (ci := 8) (v := .int mt) (C := RX8) (T := TX8) (N := 19) hx hb hts tnX8 hown hK hP 0 rfl rfl 1 (by decide) (hts _ qw_56) (fun _ h9 => h9) rfl dX8_isWithin_152 ?_
        refine lv_iconst (v := (1 : Int32)) hx hb dX8_isWithin_155 (by decide) ?_
        refine lv_isub hx hb dX8_isWithin_156 ?_
        obtain ⟨j26, hi27, hm⟩ := jb_out hm
        have key28 : ∀ (ls : Array Slot), lv_has ls 13 [(11, .int j19), (10, .int j12), (9, .int j5)] → W p l e R s m args below meth c H locs cells slots Q (F0 m 192 ls [.int j26]) := by
          intro ls hl
          refine lv_istore (lv' := [(12, .int j26), (11, .int j19), (10, .int j12), (9, .int j5)]) hx hb dX8_isWithin_192 hl (by decide) rfl (fun ls hl => ?_)
          refine lv_iload hx hb dX8_isWithin_194 (lv_at hl 3 rfl) ?_
          refine lv_if_ne (tgt := 214) hx hb dX8_isWithin_196 (by decide) (fun c33 => ?_) (fun c33 => ?_)
          · rw [if_neg c33] at hm
            refine lv_iconst (v := (1 : Int32)) hx hb dX8_isWithin_214 (by decide) ?_
            refine lv_goto (tgt := 219) hx hb dX8_isWithin_215 (by decide) ?_
            have hm := Option.some.inj hm
            subst hm
            exact K 219 ls dX8_isWithin_219 rfl
          · rw [if_pos c33] at hm
            refine lv_iload hx hb dX8_isWithin_199 (lv_at hl 2 rfl) ?_
            refine lv_if_ne (tgt := 214) hx hb dX8_isWithin_201 (by decide) (fun c34 => ?_) (fun c34 => ?_)
            · rw [if_neg c34] at hm
              refine lv_iconst (v := (1 : Int32)) hx hb dX8_isWithin_214 (by decide) ?_
              refine lv_goto (tgt := 219) hx hb dX8_isWithin_215 (by decide) ?_
              have hm := Option.some.inj hm
              subst hm
              exact K 219 ls dX8_isWithin_219 rfl
            · rw [if_pos c34] at hm
              refine lv_iload hx hb dX8_isWithin_204 (lv_at hl 1 rfl) ?_
              refine lv_if_ne (tgt := 214) hx hb dX8_isWithin_206 (by decide) (fun c35 => ?_) (fun c35 => ?_)
              · rw [if_neg c35] at hm
                refine lv_iconst (v := (1 : Int32)) hx hb dX8_isWithin_214 (by decide) ?_
                refine lv_goto (tgt := 219) hx hb dX8_isWithin_215 (by decide) ?_
                have hm := Option.some.inj hm
                subst hm
                exact K 219 ls dX8_isWithin_219 rfl
              · rw [if_pos c35] at hm
                refine lv_iload hx hb dX8_isWithin_209 (lv_at hl 0 rfl) ?_
                refine lv_if_eq (tgt := 218) hx hb dX8_isWithin_211 (by decide) (fun c36 => ?_) (fun c36 => ?_)
                · rw [if_pos c36] at hm
                  refine lv_iconst (v := (0 : Int32)) hx hb dX8_isWithin_218 (by decide) ?_
                  have hm := Option.some.inj hm
                  subst hm
                  exact K 219 ls dX8_isWithin_219 rfl
                · rw [if_neg c36] at hm
                  refine lv_iconst (v := (1 : Int32)) hx hb dX8_isWithin_214 (by decide) ?_
                  refine lv_goto (tgt := 219) hx hb dX8_isWithin_215 (by decide) ?_
                  have hm := Option.some.inj hm
                  subst hm
                  exact K 219 ls dX8_isWithin_219 rfl
        refine lv_icmp_ge (tgt := 191) hx hb dX8_isWithin_157 (by decide) (fun c29 => ?_) (fun c29 => ?_)
        · rw [if_pos c29] at hi27
          refine lv_iconst (v := (0 : Int32)) hx hb dX8_isWithin_191 (by decide) ?_
          have hi27 := Option.some.inj hi27
          have e9 : j26 = (0 : Int32) := (congrArg (fun q => q) hi27).symm
          rw [e9] at key28
          exact key28 ls (lv_sub hl [0, 1, 2] rfl)
        · rw [if_neg c29] at hi27
          refine lv_aload_n hx hb dX8_isWithin_160 rfl (lv_at hl 5 rfl) ?_
          refine lv_lload_n hx hb dX8_isWithin_161 rfl (lv_at hl 6 rfl) ?_
          refine lv_iload hx hb dX8_isWithin_162 (lv_at hl 3 rfl) ?_
          refine lv_iconst (v := (1 : Int32)) hx hb dX8_isWithin_164 (by decide) ?_
          refine lv_iadd hx hb dX8_isWithin_165 ?_
          refine lv_aload_n hx hb dX8_isWithin_166 rfl (lv_at hl 5 rfl) ?_
          refine va_get (D := D) (ci := 8) (v := .int mw) (C := RX8) (T := TX8) (N := 19) hx hb hts tnX8 hown hK hP 0 rfl rfl 0 (by decide) (hts _ qw_55) (fun _ h9 => h9) rfl dX8_isWithin_167 ?_
          refine lv_imul hx hb dX8_isWithin_170 ?_
          refine lv_iload hx hb dX8_isWithin_171 (lv_at hl 4 rfl) ?_
          refine lv_iadd hx hb dX8_isWithin_173 ?_
          refine lv_iload hx hb dX8_isWithin_174 (lv_at hl 7 rfl) ?_
          refine lv_aload_n hx hb dX8_isWithin_176 rfl (lv_at hl 5 rfl) ?_
          refine va_get (D := D) (ci := 8) (v := .int mw) (C := RX8) (T := TX8) (N := 19) hx hb hts tnX8 hown hK hP 0 rfl rfl 0 (by decide) (hts _ qw_55) (fun _ h9 => h9) rfl dX8_isWithin_177 ?_
          refine lv_iadd hx hb dX8_isWithin_180 ?_
          obtain ⟨r30, h31, hi27⟩ := jb_out hi27
          refine kX8_isAllIn ⟨hx, hb, hml, hown, hts⟩ qw_175 hP hK h31 hl.1 ⟨Nat.le_trans (by decide) hR.1, Nat.le_trans (by decide) hR.2.1, hR.2.2⟩ (Nat.le_of_ble_eq_true rfl) dX8_isWithin_181 ?_
          refine lv_if_eq (tgt := 191) hx hb dX8_isWithin_184 (by decide) (fun c32 => ?_) (fun c32 => ?_)
          · rw [if_pos c32] at hi27
            refine lv_iconst (v := (0 : Int32)) hx hb dX8_isWithin_191 (by decide) ?_
            have hi27 := Option.some.inj hi27
            have e9 : j26 = (0 : Int32) := (congrArg (fun q => q) hi27).symm
            rw [e9] at key28
            exact key28 ls (lv_sub hl [0, 1, 2] rfl)
          · rw [if_neg c32] at hi27
            refine lv_iconst (v := (1 : Int32)) hx hb dX8_isWithin_187 (by decide) ?_
            refine lv_goto (tgt := 192) hx hb dX8_isWithin_188 (by decide) ?_
            have hi27 := Option.some.inj hi27
            have e9 : j26 = (1 : Int32) := (congrArg (fun q => q) hi27).symm
            rw [e9] at key28
            exact key28 ls (lv_sub hl [0, 1, 2] rfl)
      refine lv_if_le (tgt := 146) hx hb dX8_isWithin_113 (by decide) (fun c22 => ?_) (fun c22 => ?_)
      · rw [if_pos c22] at hi20
        refine lv_iconst (v := (0 : Int32)) hx hb dX8_isWithin_146 (by decide) ?_
        have hi20 := Option.some.inj hi20
        have e9 : j19 = (0 : Int32) := (congrArg (fun q => q) hi20).symm
        rw [e9] at key21
        exact key21 ls (lv_sub hl [0, 1, 2, 5, 6, 7, 9] rfl)
      · rw [if_neg c22] at hi20
        refine lv_aload_n hx hb dX8_isWithin_116 rfl (lv_at hl 6 rfl) ?_
        refine lv_lload_n hx hb dX8_isWithin_117 rfl (lv_at hl 7 rfl) ?_
        refine lv_iload_n hx hb dX8_isWithin_118 rfl (lv_at hl 8 rfl) ?_
        refine lv_aload_n hx hb dX8_isWithin_119 rfl (lv_at hl 6 rfl) ?_
        refine va_get (D := D) (ci := 8) (v := .int mw) (C := RX8) (T := TX8) (N := 19) hx hb hts tnX8 hown hK hP 0 rfl rfl 0 (by decide) (hts _ qw_55) (fun _ h9 => h9) rfl dX8_isWithin_120 ?_
        refine lv_isub hx hb dX8_isWithin_123 ?_
        refine lv_iload hx hb dX8_isWithin_124 (lv_at hl 4 rfl) ?_
        refine lv_iconst (v := (1 : Int32)) hx hb dX8_isWithin_126 (by decide) ?_
        refine lv_isub hx hb dX8_isWithin_127 ?_
        refine lv_aload_n hx hb dX8_isWithin_128 rfl (lv_at hl 6 rfl) ?_
        refine va_get (D := D) (ci := 8) (v := .int mw) (C := RX8) (T := TX8) (N := 19) hx hb hts tnX8 hown hK hP 0 rfl rfl 0 (by decide) (hts _ qw_55) (fun _ h9 => h9) rfl dX8_isWithin_129 ?_
        refine lv_imul hx hb dX8_isWithin_132 ?_
        refine lv_iload hx hb dX8_isWithin_133 (lv_at hl 3 rfl) ?_
        refine lv_iadd hx hb dX8_isWithin_135 ?_
        obtain ⟨r23, h24, hi20⟩ := jb_out hi20
        refine kX8_isAllIn ⟨hx, hb, hml, hown, hts⟩ qw_175 hP hK h24 hl.1 ⟨Nat.le_trans (by decide) hR.1, Nat.le_trans (by decide) hR.2.1, hR.2.2⟩ (Nat.le_of_ble_eq_true rfl) dX8_isWithin_136 ?_
        refine lv_if_eq (tgt := 146) hx hb dX8_isWithin_139 (by decide) (fun c25 => ?_) (fun c25 => ?_)
        · rw [if_pos c25] at hi20
          refine lv_iconst (v := (0 : Int32)) hx hb dX8_isWithin_146 (by decide) ?_
          have hi20 := Option.some.inj hi20
          have e9 : j19 = (0 : Int32) := (congrArg (fun q => q) hi20).symm
          rw [e9] at key21
          exact key21 ls (lv_sub hl [0, 1, 2, 5, 6, 7, 9] rfl)
        · rw [if_neg c25] at hi20
          refine lv_iconst (v := (1 : Int32)) hx hb dX8_isWithin_142 (by decide) ?_
          refine lv_goto (tgt := 147) hx hb dX8_isWithin_143 (by decide) ?_
          have hi20 := Option.some.inj hi20
          have e9 : j19 = (1 : Int32) := (congrArg (fun q => q) hi20).symm
          rw [e9] at key21
          exact key21 ls (lv_sub hl [0, 1, 2, 5, 6, 7, 9] rfl)
    refine lv_icmp_ge (tgt := 108) hx hb dX8_isWithin_77 (by decide) (fun c15 => ?_) (fun c15 => ?_)
    · rw [if_pos c15] at hi13
      refine lv_iconst (v := (0 : Int32)) hx hb dX8_isWithin_108 (by decide) ?_
      have hi13 := Option.some.inj hi13
      have e9 : j12 = (0 : Int32) := (congrArg (fun q => q) hi13).symm
      rw [e9] at key14
      exact key14 ls (lv_sub hl [0, 1, 2, 3, 4, 5, 6, 7, 8] rfl)
    · rw [if_neg c15] at hi13
      refine lv_aload_n hx hb dX8_isWithin_80 rfl (lv_at hl 5 rfl) ?_
      refine lv_lload_n hx hb dX8_isWithin_81 rfl (lv_at hl 6 rfl) ?_
      refine lv_iload hx hb dX8_isWithin_82 (lv_at hl 3 rfl) ?_
      refine lv_aload_n hx hb dX8_isWithin_84 rfl (lv_at hl 5 rfl) ?_
      refine va_get (D := D) (ci := 8) (v := .int mw) (C := RX8) (T := TX8) (N := 19) hx hb hts tnX8 hown hK hP 0 rfl rfl 0 (by decide) (hts _ qw_55) (fun _ h9 => h9) rfl dX8_isWithin_85 ?_
      refine lv_imul hx hb dX8_isWithin_88 ?_
      refine lv_iload hx hb dX8_isWithin_89 (lv_at hl 2 rfl) ?_
      refine lv_iadd hx hb dX8_isWithin_91 ?_
      refine lv_iconst (v := (1 : Int32)) hx hb dX8_isWithin_92 (by decide) ?_
      refine lv_iadd hx hb dX8_isWithin_93 ?_
      refine lv_iload hx hb dX8_isWithin_94 (lv_at hl 8 rfl) ?_
      refine lv_iconst (v := (1 : Int32)) hx hb dX8_isWithin_96 (by decide) ?_
      refine lv_iadd hx hb dX8_isWithin_97 ?_
      obtain ⟨r16, h17, hi13⟩ := jb_out hi13
      refine kX8_isAllIn ⟨hx, hb, hml, hown, hts⟩ qw_175 hP hK h17 hl.1 ⟨Nat.le_trans (by decide) hR.1, Nat.le_trans (by decide) hR.2.1, hR.2.2⟩ (Nat.le_of_ble_eq_true rfl) dX8_isWithin_98 ?_
      refine lv_if_eq (tgt := 108) hx hb dX8_isWithin_101 (by decide) (fun c18 => ?_) (fun c18 => ?_)
      · rw [if_pos c18] at hi13
        refine lv_iconst (v := (0 : Int32)) hx hb dX8_isWithin_108 (by decide) ?_
        have hi13 := Option.some.inj hi13
        have e9 : j12 = (0 : Int32) := (congrArg (fun q => q) hi13).symm
        rw [e9] at key14
        exact key14 ls (lv_sub hl [0, 1, 2, 3, 4, 5, 6, 7, 8] rfl)
      · rw [if_neg c18] at hi13
        refine lv_iconst (v := (1 : Int32)) hx hb dX8_isWithin_104 (by decide) ?_
        refine lv_goto (tgt := 109) hx hb dX8_isWithin_105 (by decide) ?_
        have hi13 := Option.some.inj hi13
        have e9 : j12 = (1 : Int32) := (congrArg (fun q => q) hi13).symm
        rw [e9] at key14
        exact key14 ls (lv_sub hl [0, 1, 2, 3, 4, 5, 6, 7, 8] rfl)
  refine lv_if_le (tgt := 66) hx hb dX8_isWithin_36 (by decide) (fun c8 => ?_) (fun c8 => ?_)
  · rw [if_pos c8] at hi6
    refine lv_iconst (v := (0 : Int32)) hx hb dX8_isWithin_66 (by decide) ?_
    have hi6 := Option.some.inj hi6
    have e9 : j5 = (0 : Int32) := (congrArg (fun q => q) hi6).symm
    rw [e9] at key7
    exact key7 ls (lv_sub hl [0, 1, 2, 3, 4, 5, 6, 7] rfl)
  · rw [if_neg c8] at hi6
    refine lv_aload_n hx hb dX8_isWithin_39 rfl (lv_at hl 4 rfl) ?_
    refine lv_lload_n hx hb dX8_isWithin_40 rfl (lv_at hl 5 rfl) ?_
    refine lv_iload_n hx hb dX8_isWithin_41 rfl (lv_at hl 6 rfl) ?_
    refine lv_iconst (v := (1 : Int32)) hx hb dX8_isWithin_42 (by decide) ?_
    refine lv_isub hx hb dX8_isWithin_43 ?_
    refine lv_iload hx hb dX8_isWithin_44 (lv_at hl 0 rfl) ?_
    refine lv_aload_n hx hb dX8_isWithin_46 rfl (lv_at hl 4 rfl) ?_
    refine va_get (D := D) (ci := 8) (v := .int mw) (C := RX8) (T := TX8) (N := 19) hx hb hts tnX8 hown hK hP 0 rfl rfl 0 (by decide) (hts _ qw_55) (fun _ h9 => h9) rfl dX8_isWithin_47 ?_
    refine lv_imul hx hb dX8_isWithin_50 ?_
    refine lv_iload hx hb dX8_isWithin_51 (lv_at hl 3 rfl) ?_
    refine lv_iadd hx hb dX8_isWithin_53 ?_
    refine lv_iconst (v := (1 : Int32)) hx hb dX8_isWithin_54 (by decide) ?_
    refine lv_isub hx hb dX8_isWithin_55 ?_
    obtain ⟨r9, h10, hi6⟩ := jb_out hi6
    refine kX8_isAllIn ⟨hx, hb, hml, hown, hts⟩ qw_175 hP hK h10 hl.1 ⟨Nat.le_trans (by decide) hR.1, Nat.le_trans (by decide) hR.2.1, hR.2.2⟩ (Nat.le_of_ble_eq_true rfl) dX8_isWithin_56 ?_
    refine lv_if_eq (tgt := 66) hx hb dX8_isWithin_59 (by decide) (fun c11 => ?_) (fun c11 => ?_)
    · rw [if_pos c11] at hi6
      refine lv_iconst (v := (0 : Int32)) hx hb dX8_isWithin_66 (by decide) ?_
      have hi6 := Option.some.inj hi6
      have e9 : j5 = (0 : Int32) := (congrArg (fun q => q) hi6).symm
      rw [e9] at key7
      exact key7 ls (lv_sub hl [0, 1, 2, 3, 4, 5, 6, 7] rfl)
    · rw [if_neg c11] at hi6
      refine lv_iconst (v := (1 : Int32)) hx hb dX8_isWithin_62 (by decide) ?_
      refine lv_goto (tgt := 67) hx hb dX8_isWithin_63 (by decide) ?_
      have hi6 := Option.some.inj hi6
      have e9 : j5 = (1 : Int32) := (congrArg (fun q => q) hi6).symm
      rw [e9] at key7
      exact key7 ls (lv_sub hl [0, 1, 2, 3, 4, 5, 6, 7] rfl)
set_option maxHeartbeats 4000000 in
set_option maxRecDepth 100000 in
theorem tX8_isWithin (l : Launch) {D : va_G} {n : Nat} {a1 : Int64} {a3 : Int32} {a4 : Int32} {r : Int32} (hm : mX8_isWithin n mw mt a1 a3 a4 = some r) : Met l yX8_isWithin (.code yX8_isWithin cX8_isWithin 13 (some .boolean) :: tw) ({ frames := 3, cells := 0, slots := 0, locals := 76 } : Room) (rdP D [.ref oM, .long a1, .int a3, .int a4] (wdM cJ cI oM oM1 oM2 oM3 oM4 oM5 oM6 oM7 oM8 oM9 oM10 oM11 mw mt mrim mjn mhm mpn mbm mgm mpi mst mam mac mro mbe mhi mmi mgr mtr mle) [(cI, .int), (cJ, .long)]) (vp_Si (fun q => q = r ∧ narrow .boolean (.int q) = .int q)) 0 0 (fun _ => False) := by
  refine Met.ofW (cc := cX8_isWithin) (maxL := 13) (ret := (some .boolean)) (by decide) rfl ?_
  intro p e s m args below meth c s₁ B hml hv
  obtain ⟨rfl, hP, hK⟩ := hv
  have hx := B.exec
  have hb := B.bytes
  have hr := B.returns
  have hts : ∀ w ∈ tw, w.before _ s = true := fun w h => atoms_spec (ws := .code yX8_isWithin cX8_isWithin 13 (some .boolean) :: tw) B.pre w (List.mem_cons_of_mem _ h)
  have hown : s.vm.findClass RX8 = some m.cls := findClass_of_methodNamed B.named
  have hlocks := B.notSynchronized
  have hl := lv_entry ([.ref oM, .long a1, .int a3, .int a4]) (n := 13) (Nat.le_of_ble_eq_true rfl)
  rw [lg_entry_eq]
  generalize (lg_sl ([.ref oM, .long a1, .int a3, .int a4]) ++ List.replicate (13 - (lg_sl ([.ref oM, .long a1, .int a3, .int a4])).length) Slot.unset).toArray = ls at hl ⊢
  refine bX8_isWithin hx hb hml hown hts hK hP ⟨Nat.le_of_ble_eq_true rfl, Nat.le_of_ble_eq_true rfl, Nat.zero_le _, Nat.zero_le _⟩ hm ls hl (fun pc ls hd hz => ?_)
  exact W.zret hx hb hr hz (fun t ht hW => ⟨r, rfl, ⟨rfl, hz⟩, ht⟩) (fun q h => by cases h) hd
set_option maxHeartbeats 4000000 in
set_option maxRecDepth 100000 in
theorem kX8_isWithin {own : String} {cc : ByteArray} {nL idx pc : Nat} {ls : Array Slot} {rest : List Value} {n : Nat} {a1 : Int64} {a3 : Int32} {a4 : Int32} {r : Int32} (fx : CallFix p m c cc nL s args tw own) (hq : Cond.methodLink own idx yX8_isWithin ∈ tw) (hP : va_P D vwCl (wdM cJ cI oM oM1 oM2 oM3 oM4 oM5 oM6 oM7 oM8 oM9 oM10 oM11 mw mt mrim mjn mhm mpn mbm mgm mpi mst mam mac mro mbe mhi mmi mgr mtr mle) H) (hK : va_K D vwCl [(cI, .int), (cJ, .long)] s) (hm : mX8_isWithin n mw mt a1 a3 a4 = some r) (hsz : ls.size = nL) (hR : 4 ≤ R.frames ∧ 108 ≤ R.locals ∧ cells ≤ R.cells ∧ slots ≤ R.slots) (hst : (rest.map fun v => v.category).sum ≤ 8) (hd : decode cc pc = .ok (.invokevirtual idx, 3)) (kk : W p l e R s m args below meth c H locs cells slots Q (F0 m (pc + 3) ls (.int r :: rest))) : W p l e R s m args below meth c H locs cells slots Q (F0 m pc ls (.int a4 :: .int a3 :: .long a1 :: .ref oM :: rest)) := by
  exact vp_callSi (va_Run.run (va_runV (As := [.long a1, .int a3, .int a4]) (rest := rest) fx (tX8_isWithin l hm) (cwV 3 fx.2.2.2.2 (tw_V hq qw_176 qw_177 qw_53 qw_178) rfl rfl rfl (by decide +kernel) ⟨hR.1, hR.2.1⟩) ⟨rdP_bl, va_recv hK hP (ci := 8) (q0 := 0) rfl rfl, rdP_ok hP hK⟩ rfl rfl hsz rfl (lv_room hst) hd ⟨hR.2.2.1, hR.2.2.2⟩)) (fun r9 hr9 => by first | (rw [hr9]; exact kk) | (rw [hr9.1]; exact kk))
-- X8_lastOf
def mX8_lastOf_L3 (n : Nat) (v0 : Int64) : Nat → (Int32) → Option ((Int32))
  | 0, _ => none
  | k + 1, v2 => (if (mX8_has v0 v2) = 0 then mX8_lastOf_L3 n v0 k (v2 + (-1 : Int32)) else some (v2))
def mX8_lastOf (n : Nat) (a0 : Int64) : Option Int32 :=
  jb (mX8_lastOf_L3 n a0 n (48 : Int32)) (fun (y4 : Int32) => (some y4))
theorem dX8_lastOf_0 : decode cX8_lastOf 0 = .ok (.bipush 48, 2) := by decide +kernel
theorem dX8_lastOf_2 : decode cX8_lastOf 2 = .ok (.istore_n 2, 1) := by decide +kernel
theorem dX8_lastOf_3 : decode cX8_lastOf 3 = .ok (.lload_n 0, 1) := by decide +kernel
theorem dX8_lastOf_4 : decode cX8_lastOf 4 = .ok (.iload_n 2, 1) := by decide +kernel
theorem dX8_lastOf_5 : decode cX8_lastOf 5 = .ok (.invokestatic 78, 3) := by decide +kernel
theorem dX8_lastOf_8 : decode cX8_lastOf 8 = .ok (.ifCond .ne 9, 3) := by decide +kernel
theorem dX8_lastOf_11 : decode cX8_lastOf 11 = .ok (.iinc 2 (-1), 3) := by decide +kernel
theorem dX8_lastOf_14 : decode cX8_lastOf 14 = .ok (.goto (-11), 3) := by decide +kernel
theorem dX8_lastOf_17 : decode cX8_lastOf 17 = .ok (.iload_n 2, 1) := by decide +kernel
theorem dX8_lastOf_18 : decode cX8_lastOf 18 = .ok (.ireturn, 1) := by decide +kernel
set_option maxHeartbeats 4000000 in
set_option maxRecDepth 100000 in
theorem wX8_lastOf_L3 {n : Nat} {v0 : Int64} (hx : p.tables.exec = Jvm.exec) (hb : c.code = cX8_lastOf) (hml : c.maxLocals = 3) (hown : s.vm.findClass RX8 = some m.cls) (hts : ∀ w ∈ tw, w.before args s = true) (hR : 1 ≤ R.frames ∧ 22 ≤ R.locals ∧ cells ≤ R.cells ∧ slots ≤ R.slots) : ∀ (k : Nat) (v2 : Int32) (x2 : Int32), mX8_lastOf_L3 n v0 k v2 = some (x2) → ∀ ls : Array Slot, lv_has ls 3 [(0, .long v0), (2, .int v2)] → (∀ ls : Array Slot, lv_has ls 3 [(2, .int x2)] → W p l e R s m args below meth c H locs cells slots Q (F0 m 17 ls [])) → W p l e R s m args below meth c H locs cells slots Q (F0 m 3 ls []) := by
  intro k
  induction k with
  | zero => intro v2 x2 hm; rw [mX8_lastOf_L3] at hm; cases hm
  | succ k ih =>
    intro v2 x2 hm ls hl K0
    rw [mX8_lastOf_L3] at hm
    refine lv_lload_n hx hb dX8_lastOf_3 rfl (lv_at hl 0 rfl) ?_
    refine lv_iload_n hx hb dX8_lastOf_4 rfl (lv_at hl 1 rfl) ?_
    refine kX8_has ⟨hx, hb, hml, hown, hts⟩ qw_81 hl.1 ⟨Nat.le_trans (by decide) hR.1, Nat.le_trans (by decide) hR.2.1, hR.2.2⟩ (Nat.le_of_ble_eq_true rfl) dX8_lastOf_5 ?_
    refine lv_if_ne (tgt := 17) hx hb dX8_lastOf_8 (by decide) (fun c3 => ?_) (fun c3 => ?_)
    · rw [if_neg c3] at hm
      have hm := Option.some.inj hm
      have e9 : x2 = v2 := (congrArg (fun q => q) hm).symm
      rw [e9] at K0
      exact K0 ls (lv_sub hl [1] rfl)
    · rw [if_pos c3] at hm
      refine lv_iinc (v := (v2 + (-1 : Int32))) (lv' := [(2, .int (v2 + (-1 : Int32))), (0, .long v0)]) hx hb dX8_lastOf_11 hl (k := 1) rfl (by rfl) (by decide) rfl (fun ls hl => ?_)
      refine lv_goto (tgt := 3) hx hb dX8_lastOf_14 (by decide) ?_
      exact ih _ _ hm ls (lv_sub hl [1, 0] rfl) K0
set_option maxHeartbeats 4000000 in
set_option maxRecDepth 100000 in
theorem bX8_lastOf {n : Nat} {a0 : Int64} {r : Int32} (hx : p.tables.exec = Jvm.exec) (hb : c.code = cX8_lastOf) (hml : c.maxLocals = 3) (hown : s.vm.findClass RX8 = some m.cls) (hts : ∀ w ∈ tw, w.before args s = true) (hR : 1 ≤ R.frames ∧ 22 ≤ R.locals ∧ cells ≤ R.cells ∧ slots ≤ R.slots) (hm : mX8_lastOf n a0 = some r) (ls : Array Slot) (hl : lv_has ls 3 [(0, .long a0)]) (K : ∀ (pc : Nat) (ls : Array Slot), decode cX8_lastOf pc = .ok (.ireturn, 1) → W p l e R s m args below meth c H locs cells slots Q (F0 m pc ls [.int r])) : W p l e R s m args below meth c H locs cells slots Q (F0 m 0 ls []) := by
  unfold mX8_lastOf at hm
  refine lv_bipush (v := (48 : Int32)) hx hb dX8_lastOf_0 (by decide) ?_
  refine lv_istore_n (lv' := [(2, .int (48 : Int32)), (0, .long a0)]) hx hb dX8_lastOf_2 rfl hl (by decide) rfl (fun ls hl => ?_)
  obtain ⟨y4, h5, hm⟩ := jb_out hm
  refine wX8_lastOf_L3 hx hb hml hown hts hR n _ _  h5 ls (lv_sub hl [1, 0] rfl) (fun ls hl => ?_)
  refine lv_iload_n hx hb dX8_lastOf_17 rfl (lv_at hl 0 rfl) ?_
  have hm := Option.some.inj hm
  subst hm
  exact K 18 ls dX8_lastOf_18
set_option maxHeartbeats 4000000 in
set_option maxRecDepth 100000 in
theorem tX8_lastOf (l : Launch) {n : Nat} {a0 : Int64} {r : Int32} (hm : mX8_lastOf n a0 = some r) : Met l yX8_lastOf (.code yX8_lastOf cX8_lastOf 3 (some .int) :: tw) ({ frames := 1, cells := 0, slots := 0, locals := 22 } : Room) (va_Pc [.long a0] (fun _ => True)) (vp_Si (fun q => q = r)) 0 0 (fun _ => False) := by
  refine Met.ofW (cc := cX8_lastOf) (maxL := 3) (ret := (some .int)) (by decide) rfl ?_
  intro p e s m args below meth c s₁ B hml hv
  obtain ⟨rfl, -⟩ := hv
  have hx := B.exec
  have hb := B.bytes
  have hr := B.returns
  have hts : ∀ w ∈ tw, w.before _ s = true := fun w h => atoms_spec (ws := .code yX8_lastOf cX8_lastOf 3 (some .int) :: tw) B.pre w (List.mem_cons_of_mem _ h)
  have hown : s.vm.findClass RX8 = some m.cls := findClass_of_methodNamed B.named
  have hlocks := B.notSynchronized
  have hl := lv_entry ([.long a0]) (n := 3) (Nat.le_of_ble_eq_true rfl)
  rw [lg_entry_eq]
  generalize (lg_sl ([.long a0]) ++ List.replicate (3 - (lg_sl ([.long a0])).length) Slot.unset).toArray = ls at hl ⊢
  refine bX8_lastOf hx hb hml hown hts ⟨Nat.le_of_ble_eq_true rfl, Nat.le_of_ble_eq_true rfl, Nat.zero_le _, Nat.zero_le _⟩ hm ls hl (fun pc ls hd => ?_)
  exact W.iret hx hb hr (fun t ht hW => ⟨r, rfl, rfl, ht⟩) (fun q h => by cases h) hd
set_option maxHeartbeats 4000000 in
set_option maxRecDepth 100000 in
theorem kX8_lastOf {own : String} {cc : ByteArray} {nL idx pc : Nat} {ls : Array Slot} {rest : List Value} {n : Nat} {a0 : Int64} {r : Int32} (fx : CallFix p m c cc nL s args tw own) (hq : Cond.methodLink own idx yX8_lastOf ∈ tw) (hm : mX8_lastOf n a0 = some r) (hsz : ls.size = nL) (hR : 2 ≤ R.frames ∧ 44 ≤ R.locals ∧ cells ≤ R.cells ∧ slots ≤ R.slots) (hst : (rest.map fun v => v.category).sum ≤ 8) (hd : decode cc pc = .ok (.invokestatic idx, 3)) (kk : W p l e R s m args below meth c H locs cells slots Q (F0 m (pc + 3) ls (.int r :: rest))) : W p l e R s m args below meth c H locs cells slots Q (F0 m pc ls (.long a0 :: rest)) := by
  exact vp_callSi (va_Run.run (va_runS (As := [.long a0]) (rest := rest) fx (tX8_lastOf l hm) (va_cwS 1 fx.2.2.2.2 (tw_S2 hq qw_179 qw_53 qw_180) rfl rfl rfl (by decide +kernel) ⟨hR.1, hR.2.1⟩) ⟨fun a U g mk q => q, fun U hU hW => ⟨rfl, trivial⟩⟩ rfl rfl hsz rfl (lv_room hst) hd ⟨hR.2.2.1, hR.2.2.2⟩)) (fun r9 hr9 => by first | (rw [hr9]; exact kk) | (rw [hr9.1]; exact kk))
end
