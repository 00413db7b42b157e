theorem qw_52 : Cond.static yX8_in ∈ tw := tw_of (by decide +kernel) rfl
theorem qw_53 : Cond.initialized RX8 ∈ tw := tw_of (by decide +kernel) rfl
theorem qw_54 : Cond.code yX8_in cX8_in 6 (some .boolean) ∈ tw := tw_of (by decide +kernel) rfl
theorem qw_55 : Cond.fieldLink RX8 7 "WornShapesModel" "wide" "I" ∈ tw := tw_of (by decide +kernel) rfl
theorem qw_56 : Cond.fieldLink RX8 13 "WornShapesModel" "tall" "I" ∈ tw := tw_of (by decide +kernel) rfl
theorem qw_57 : Cond.instanceMethod yX8_cells ∈ tw := tw_of (by decide +kernel) rfl
theorem qw_58 : Cond.selects RX8 yX8_cells yX8_cells ∈ tw := tw_of (by decide +kernel) rfl
theorem qw_59 : Cond.code yX8_cells cX8_cells 1 (some .int) ∈ tw := tw_of (by decide +kernel) rfl
theorem qw_60 : Cond.methodLink RX8 57 yX8_cells ∈ tw := tw_of (by decide +kernel) rfl
theorem qw_61 : Cond.instanceMethod yX8_all ∈ tw := tw_of (by decide +kernel) rfl
theorem qw_62 : Cond.selects RX8 yX8_all yX8_all ∈ tw := tw_of (by decide +kernel) rfl
theorem qw_63 : Cond.code yX8_all cX8_all 1 (some .long) ∈ tw := tw_of (by decide +kernel) rfl
theorem qw_64 : Cond.constantLong RX8 61 (4) ∈ tw := tw_of (by decide +kernel) rfl
theorem qw_65 : Cond.methodLink RX8 63 yX8_in ∈ tw := tw_of (by decide +kernel) rfl
theorem qw_66 : Cond.static yX8_isPicture ∈ tw := tw_of (by decide +kernel) rfl
theorem qw_67 : Cond.code yX8_isPicture cX8_isPicture 1 (some .boolean) ∈ tw := tw_of (by decide +kernel) rfl
theorem qw_68 : Cond.instanceMethod yX8_isCell ∈ tw := tw_of (by decide +kernel) rfl
theorem qw_69 : Cond.selects RX8 yX8_isCell yX8_isCell ∈ tw := tw_of (by decide +kernel) rfl
theorem qw_70 : Cond.code yX8_isCell cX8_isCell 2 (some .boolean) ∈ tw := tw_of (by decide +kernel) rfl
theorem qw_71 : Cond.static yX8_has ∈ tw := tw_of (by decide +kernel) rfl
theorem qw_72 : Cond.code yX8_has cX8_has 3 (some .boolean) ∈ tw := tw_of (by decide +kernel) rfl
theorem qw_73 : Cond.static yX8_many ∈ tw := tw_of (by decide +kernel) rfl
theorem qw_74 : Cond.code yX8_many cX8_many 5 (some .int) ∈ tw := tw_of (by decide +kernel) rfl
theorem qw_75 : Cond.instanceMethod yX8_boxOf ∈ tw := tw_of (by decide +kernel) rfl
theorem qw_76 : Cond.selects RX8 yX8_boxOf yX8_boxOf ∈ tw := tw_of (by decide +kernel) rfl
theorem qw_77 : Cond.code yX8_boxOf cX8_boxOf 6 (some .long) ∈ tw := tw_of (by decide +kernel) rfl
theorem qw_78 : Cond.instanceMethod yX8_stepFrom ∈ tw := tw_of (by decide +kernel) rfl
theorem qw_79 : Cond.selects RX8 yX8_stepFrom yX8_stepFrom ∈ tw := tw_of (by decide +kernel) rfl
theorem qw_80 : Cond.code yX8_stepFrom cX8_stepFrom 5 (some .int) ∈ tw := tw_of (by decide +kernel) rfl
theorem qw_81 : Cond.methodLink RX8 78 yX8_has ∈ tw := tw_of (by decide +kernel) rfl
theorem qw_82 : Cond.methodLink RX8 96 yX8_stepFrom ∈ tw := tw_of (by decide +kernel) rfl
theorem qw_83 : Cond.instanceMethod yX8_grown ∈ tw := tw_of (by decide +kernel) rfl
theorem qw_84 : Cond.selects RX8 yX8_grown yX8_grown ∈ tw := tw_of (by decide +kernel) rfl
theorem qw_85 : Cond.code yX8_grown cX8_grown 9 (some .long) ∈ tw := tw_of (by decide +kernel) rfl
theorem qw_86 : Cond.fieldLink RX8 24 "WornShapesModel" "rim" "I" ∈ tw := tw_of (by decide +kernel) rfl
theorem qw_87 : Cond.instanceMethod yX8_worn ∈ tw := tw_of (by decide +kernel) rfl
theorem qw_88 : Cond.selects RX8 yX8_worn yX8_worn ∈ tw := tw_of (by decide +kernel) rfl
theorem qw_89 : Cond.code yX8_worn cX8_worn 10 (some .long) ∈ tw := tw_of (by decide +kernel) rfl
section
variable {A : Nat → Prop} {p : Program} {l : Launch} {e : Env} {R : Room} {s : State} {m : MethodId} {args : Array Value} {below : List Frame} {meth : Method} {c : Code} {H : Heap} {locs : List Loc} {cells slots : Nat} {Q : State → Prop} {D : va_G} {oF : Nat} {oFr : Nat} {oFs : Nat} {oFc : Nat} {oFw : Nat} {oS : Nat} {oSs : Nat} {oG : Nat} {oGa : Nat} {oQ : Nat} {oQw : Nat} {oI : Nat} {oR : Nat} {oRh : Nat} {oRm : Nat} {oB : Nat} {oBw : Nat} {oX : Nat} {oXp : Nat} {oXg : Nat} {oG0 : Nat} {oGa0 : Nat} {oG1 : Nat} {oGa1 : Nat} {oG2 : Nat} {oGa2 : Nat} {oM : Nat} {oM1 : Nat} {oM2 : Nat} {oM3 : Nat} {oM4 : Nat} {oM5 : Nat} {oM6 : Nat} {oM7 : Nat} {oM8 : Nat} {oM9 : Nat} {oM10 : Nat} {oM11 : Nat} {tS : Nat} {tA : Nat} {cI : ClassId} {cJ : ClassId} {cG : ClassId} {fw : Int32} {fc : Int32} {fwh : Int64} {fbo : Int64} {fra : Nat → Int32} {fco : Nat → Int32} {fro : Nat → Int32} {fst : Nat → Int64} {srim : Int32} {sst : Nat → Int32} {gsz : Int32} {gac : Nat → Int32} {qln : Int32} {qwy : Nat → Int32} {ijn : Int32} {rsz : Int32} {rhi : Nat → Int32} {rmi : Nat → Int32} {bsz : Int32} {bfi : Int32} {bla : Int32} {bar : Int32} {bwi : Nat → Int64} {xpi : Nat → Int64} {gs0 : Int32} {gs1 : Int32} {gs2 : Int32} {ga0 : Nat → Int32} {ga1 : Nat → Int32} {ga2 : Nat → Int32} {mw : Int32} {mt : Int32} {mrim : Int32} {mjn : Int32} {mhm : Int32} {mpn : Int32} {mbm : Int32} {mgm : Int32} {mpi : Nat → Int64} {mbe : Nat → Int64} {mgr : Nat → Int64} {mle : Nat → Int64} {mst : Nat → Int32} {mam : Nat → Int32} {mac : Nat → Int32} {mro : Nat → Int32} {mhi : Nat → Int32} {mmi : Nat → Int32} {mtr : Nat → Int32}
-- X8_in
def mX8_in (a0 : Int64) (a2 : Int64) (a4 : Int64) : Int32 :=
  (if a0 < a2 then (0 : Int32) else (if a4 < a0 then (0 : Int32) else (1 : Int32)))
theorem dX8_in_0 : decode cX8_in 0 = .ok (.lload_n 0, 1) := by decide +kernel
theorem dX8_in_1 : decode cX8_in 1 = .ok (.lload_n 2, 1) := by decide +kernel
theorem dX8_in_2 : decode cX8_in 2 = .ok (.lcmp, 1) := by decide +kernel
theorem dX8_in_3 : decode cX8_in 3 = .ok (.ifCond .lt 14, 3) := by decide +kernel
theorem dX8_in_6 : decode cX8_in 6 = .ok (.lload_n 0, 1) := by decide +kernel
theorem dX8_in_7 : decode cX8_in 7 = .ok (.lload 4, 2) := by decide +kernel
theorem dX8_in_9 : decode cX8_in 9 = .ok (.lcmp, 1) := by decide +kernel
theorem dX8_in_10 : decode cX8_in 10 = .ok (.ifCond .gt 7, 3) := by decide +kernel
theorem dX8_in_13 : decode cX8_in 13 = .ok (.iconst 1, 1) := by decide +kernel
theorem dX8_in_14 : decode cX8_in 14 = .ok (.goto 4, 3) := by decide +kernel
theorem dX8_in_17 : decode cX8_in 17 = .ok (.iconst 0, 1) := by decide +kernel
theorem dX8_in_18 : decode cX8_in 18 = .ok (.ireturn, 1) := by decide +kernel
set_option maxHeartbeats 4000000 in
set_option maxRecDepth 100000 in
theorem bX8_in {a0 : Int64} {a2 : Int64} {a4 : Int64} {r : Int32} (hx : p.tables.exec = Jvm.exec) (hb : c.code = cX8_in) (hml : c.maxLocals = 6) (hown : s.vm.findClass RX8 = some m.cls) (hts : ∀ w ∈ tw, w.before args s = true) (hR : 0 ≤ R.frames ∧ 0 ≤ R.locals ∧ cells ≤ R.cells ∧ slots ≤ R.slots) (hm : mX8_in a0 a2 a4 = r) (ls : Array Slot) (hl : lv_has ls 6 [(0, .long a0), (2, .long a2), (4, .long a4)]) (K : ∀ (pc : Nat) (ls : Array Slot), decode cX8_in pc = .ok (.ireturn, 1) → narrow .boolean (.int r) = .int r → W p l e R s m args below meth c H locs cells slots Q (F0 m pc ls [.int r])) : W p l e R s m args below meth c H locs cells slots Q (F0 m 0 ls []) := by
  unfold mX8_in at hm
  refine lv_lload_n hx hb dX8_in_0 rfl (lv_at hl 0 rfl) ?_
  refine lv_lload_n hx hb dX8_in_1 rfl (lv_at hl 1 rfl) ?_
  refine W.lcmp hx hb dX8_in_2 ?_
  refine lv_if_lt (tgt := 17) hx hb dX8_in_3 (by decide) (fun c1 => ?_) (fun c1 => ?_)
  · have c1 := (lg_cmp_lt a0 a2).mp c1
    rw [if_pos c1] at hm
    refine lv_iconst (v := (0 : Int32)) hx hb dX8_in_17 (by decide) ?_
    subst hm
    exact K 18 ls dX8_in_18 rfl
  · have c1 := fun h9 => c1 ((lg_cmp_lt a0 a2).mpr h9)
    rw [if_neg c1] at hm
    refine lv_lload_n hx hb dX8_in_6 rfl (lv_at hl 0 rfl) ?_
    refine lv_lload hx hb dX8_in_7 (lv_at hl 2 rfl) ?_
    refine W.lcmp hx hb dX8_in_9 ?_
    refine lv_if_gt (tgt := 17) hx hb dX8_in_10 (by decide) (fun c2 => ?_) (fun c2 => ?_)
    · have c2 := (lg_cmp_gt a0 a4).mp c2
      rw [if_pos c2] at hm
      refine lv_iconst (v := (0 : Int32)) hx hb dX8_in_17 (by decide) ?_
      subst hm
      exact K 18 ls dX8_in_18 rfl
    · have c2 := fun h9 => c2 ((lg_cmp_gt a0 a4).mpr h9)
      rw [if_neg c2] at hm
      refine lv_iconst (v := (1 : Int32)) hx hb dX8_in_13 (by decide) ?_
      refine lv_goto (tgt := 18) hx hb dX8_in_14 (by decide) ?_
      subst hm
      exact K 18 ls dX8_in_18 rfl
set_option maxHeartbeats 4000000 in
set_option maxRecDepth 100000 in
theorem tX8_in (l : Launch) {a0 : Int64} {a2 : Int64} {a4 : Int64} {r : Int32} (hm : mX8_in a0 a2 a4 = r) : Met l yX8_in (.code yX8_in cX8_in 6 (some .boolean) :: tw) ({ frames := 0, cells := 0, slots := 0, locals := 0 } : Room) (va_Pc [.long a0, .long a2, .long a4] (fun _ => True)) (vp_Si (fun q => q = r ∧ narrow .boolean (.int q) = .int q)) 0 0 (fun _ => False) := by
  refine Met.ofW (cc := cX8_in) (maxL := 6) (ret := (some .boolean)) (by decide) rfl ?_
  intro p e s m args below meth c s₁ B hml hv
  obtain ⟨rfl, -⟩ := hv
  have hx := B.exec
  have hb := B.bytes
  have hr := B.returns
  have hts : ∀ w ∈ tw, w.before _ s = true := fun w h => atoms_spec (ws := .code yX8_in cX8_in 6 (some .boolean) :: tw) B.pre w (List.mem_cons_of_mem _ h)
  have hown : s.vm.findClass RX8 = some m.cls := findClass_of_methodNamed B.named
  have hlocks := B.notSynchronized
  have hl := lv_entry ([.long a0, .long a2, .long a4]) (n := 6) (Nat.le_of_ble_eq_true rfl)
  rw [lg_entry_eq]
  generalize (lg_sl ([.long a0, .long a2, .long a4]) ++ List.replicate (6 - (lg_sl ([.long a0, .long a2, .long a4])).length) Slot.unset).toArray = ls at hl ⊢
  refine bX8_in hx hb hml hown hts ⟨Nat.le_of_ble_eq_true rfl, Nat.le_of_ble_eq_true rfl, Nat.zero_le _, Nat.zero_le _⟩ hm ls hl (fun pc ls hd hz => ?_)
  exact W.zret hx hb hr hz (fun t ht hW => ⟨r, rfl, ⟨rfl, hz⟩, ht⟩) (fun q h => by cases h) hd
set_option maxHeartbeats 4000000 in
set_option maxRecDepth 100000 in
theorem kX8_in {own : String} {cc : ByteArray} {nL idx pc : Nat} {ls : Array Slot} {rest : List Value} {a0 : Int64} {a2 : Int64} {a4 : Int64} (fx : CallFix p m c cc nL s args tw own) (hq : Cond.methodLink own idx yX8_in ∈ tw) (hsz : ls.size = nL) (hR : 1 ≤ R.frames ∧ 25 ≤ R.locals ∧ cells ≤ R.cells ∧ slots ≤ R.slots) (hst : (rest.map fun v => v.category).sum ≤ 8) (hd : decode cc pc = .ok (.invokestatic idx, 3)) (kk : W p l e R s m args below meth c H locs cells slots Q (F0 m (pc + 3) ls (.int (mX8_in a0 a2 a4) :: rest))) : W p l e R s m args below meth c H locs cells slots Q (F0 m pc ls (.long a4 :: .long a2 :: .long a0 :: rest)) := by
  exact vp_callSi (va_Run.run (va_runS (As := [.long a0, .long a2, .long a4]) (rest := rest) fx (tX8_in l rfl) (va_cwS 3 fx.2.2.2.2 (tw_S2 hq qw_52 qw_53 qw_54) rfl rfl rfl (by decide +kernel) ⟨hR.1, hR.2.1⟩) ⟨fun a U g mk q => q, fun U hU hW => ⟨rfl, trivial⟩⟩ rfl rfl hsz rfl (lv_room hst) hd ⟨hR.2.2.1, hR.2.2.2⟩)) (fun r9 hr9 => by first | (rw [hr9]; exact kk) | (rw [hr9.1]; exact kk))
theorem zn_in (a b c : Int64) : narrow .boolean (.int (mX8_in a b c)) = .int (mX8_in a b c) := by
  unfold mX8_in
  repeat' split
  all_goals rfl
-- X8_cells
def mX8_cells (mw : Int32) (mt : Int32) : Int32 :=
  (mw * mt)
theorem dX8_cells_0 : decode cX8_cells 0 = .ok (.aload_n 0, 1) := by decide +kernel
theorem dX8_cells_1 : decode cX8_cells 1 = .ok (.getfield 7, 3) := by decide +kernel
theorem dX8_cells_4 : decode cX8_cells 4 = .ok (.aload_n 0, 1) := by decide +kernel
theorem dX8_cells_5 : decode cX8_cells 5 = .ok (.getfield 13, 3) := by decide +kernel
theorem dX8_cells_8 : decode cX8_cells 8 = .ok (.imul, 1) := by decide +kernel
theorem dX8_cells_9 : decode cX8_cells 9 = .ok (.ireturn, 1) := by decide +kernel
set_option maxHeartbeats 4000000 in
set_option maxRecDepth 100000 in
theorem bX8_cells {r : Int32} (hx : p.tables.exec = Jvm.exec) (hb : c.code = cX8_cells) (hml : c.maxLocals = 1) (hown : s.vm.findClass RX8 = some m.cls) (hts : ∀ w ∈ tw, w.before args s = true) (hK : va_K D vwCl [(cI, .int), (cJ, .long)] s) (hP : va_P D vwCl (wdM cJ cI oM oM1 oM2 oM3 oM4 oM5 oM6 oM7 oM8 oM9 oM10 oM11 mw mt mrim mjn mhm mpn mbm mgm mpi mst mam mac mro mbe mhi mmi mgr mtr mle) H) (hR : 0 ≤ R.frames ∧ 0 ≤ R.locals ∧ cells ≤ R.cells ∧ slots ≤ R.slots) (hm : mX8_cells mw mt = r) (ls : Array Slot) (hl : lv_has ls 1 [(0, .ref oM)]) (K : ∀ (pc : Nat) (ls : Array Slot), decode cX8_cells pc = .ok (.ireturn, 1) → W p l e R s m args below meth c H locs cells slots Q (F0 m pc ls [.int r])) : W p l e R s m args below meth c H locs cells slots Q (F0 m 0 ls []) := by
  unfold mX8_cells at hm
  refine lv_aload_n hx hb dX8_cells_0 rfl (lv_at hl 0 rfl) ?_
  refine va_get (D := D) (ci := 8) (v := .int mw) (C := RX8) (T := TX8) (N := 19) hx hb hts tnX8 hown hK hP 0 rfl rfl 0 (by decide) (hts _ qw_55) (fun _ h9 => h9) rfl dX8_cells_1 ?_
  refine lv_aload_n hx hb dX8_cells_4 rfl (lv_at hl 0 rfl) ?_
  refine va_get (D := D) (ci := 8) (v := .int mt) (C := RX8) (T := TX8) (N := 19) hx hb hts tnX8 hown hK hP 0 rfl rfl 1 (by decide) (hts _ qw_56) (fun _ h9 => h9) rfl dX8_cells_5 ?_
  refine lv_imul hx hb dX8_cells_8 ?_
  subst hm
  exact K 9 ls dX8_cells_9
set_option maxHeartbeats 4000000 in
set_option maxRecDepth 100000 in
theorem tX8_cells (l : Launch) {D : va_G} {r : Int32} (hm : mX8_cells mw mt = r) : Met l yX8_cells (.code yX8_cells cX8_cells 1 (some .int) :: tw) ({ frames := 0, cells := 0, slots := 0, locals := 0 } : Room) (rdP D [.ref oM] (wdM cJ cI oM oM1 oM2 oM3 oM4 oM5 oM6 oM7 oM8 oM9 oM10 oM11 mw mt mrim mjn mhm mpn mbm mgm mpi mst mam mac mro mbe mhi mmi mgr mtr mle) [(cI, .int), (cJ, .long)]) (vp_Si (fun q => q = r)) 0 0 (fun _ => False) := by
  refine Met.ofW (cc := cX8_cells) (maxL := 1) (ret := (some .int)) (by decide) rfl ?_
  intro p e s m args below meth c s₁ B hml hv
  obtain ⟨rfl, hP, hK⟩ := hv
  have hx := B.exec
  have hb := B.bytes
  have hr := B.returns
  have hts : ∀ w ∈ tw, w.before _ s = true := fun w h => atoms_spec (ws := .code yX8_cells cX8_cells 1 (some .int) :: tw) B.pre w (List.mem_cons_of_mem _ h)
  have hown : s.vm.findClass RX8 = some m.cls := findClass_of_methodNamed B.named
  have hlocks := B.notSynchronized
  have hl := lv_entry ([.ref oM]) (n := 1) (Nat.le_of_ble_eq_true rfl)
  rw [lg_entry_eq]
  generalize (lg_sl ([.ref oM]) ++ List.replicate (1 - (lg_sl ([.ref oM])).length) Slot.unset).toArray = ls at hl ⊢
  refine bX8_cells hx hb hml hown hts hK hP ⟨Nat.le_of_ble_eq_true rfl, Nat.le_of_ble_eq_true rfl, Nat.zero_le _, Nat.zero_le _⟩ hm ls hl (fun pc ls hd => ?_)
  exact W.iret hx hb hr (fun t ht hW => ⟨r, rfl, rfl, ht⟩) (fun q h => by cases h) hd
set_option maxHeartbeats 4000000 in
set_option maxRecDepth 100000 in
theorem kX8_cells {own : String} {cc : ByteArray} {nL idx pc : Nat} {ls : Array Slot} {rest : List Value} (fx : CallFix p m c cc nL s args tw own) (hq : Cond.methodLink own idx yX8_cells ∈ tw) (hP : va_P D vwCl (wdM cJ cI oM oM1 oM2 oM3 oM4 oM5 oM6 oM7 oM8 oM9 oM10 oM11 mw mt mrim mjn mhm mpn mbm mgm mpi mst mam mac mro mbe mhi mmi mgr mtr mle) H) (hK : va_K D vwCl [(cI, .int), (cJ, .long)] s) (hsz : ls.size = nL) (hR : 1 ≤ R.frames ∧ 20 ≤ R.locals ∧ cells ≤ R.cells ∧ slots ≤ R.slots) (hst : (rest.map fun v => v.category).sum ≤ 8) (hd : decode cc pc = .ok (.invokevirtual idx, 3)) (kk : W p l e R s m args below meth c H locs cells slots Q (F0 m (pc + 3) ls (.int (mX8_cells mw mt) :: rest))) : W p l e R s m args below meth c H locs cells slots Q (F0 m pc ls (.ref oM :: rest)) := by
  exact vp_callSi (va_Run.run (va_runV (As := []) (rest := rest) fx (tX8_cells l rfl) (cwV 0 fx.2.2.2.2 (tw_V hq qw_57 qw_58 qw_53 qw_59) rfl rfl rfl (by decide +kernel) ⟨hR.1, hR.2.1⟩) ⟨rdP_bl, va_recv hK hP (ci := 8) (q0 := 0) rfl rfl, rdP_ok hP hK⟩ rfl rfl hsz rfl (lv_room hst) hd ⟨hR.2.2.1, hR.2.2.2⟩)) (fun r9 hr9 => by first | (rw [hr9]; exact kk) | (rw [hr9.1]; exact kk))
-- X8_all
def mX8_all (mw : Int32) (mt : Int32) : Int64 :=
  ((jlshl (1 : Int64) (mX8_cells mw mt)) - (1 : Int64))
theorem dX8_all_0 : decode cX8_all 0 = .ok (.lconst 1, 1) := by decide +kernel
theorem dX8_all_1 : decode cX8_all 1 = .ok (.aload_n 0, 1) := by decide +kernel
theorem dX8_all_2 : decode cX8_all 2 = .ok (.invokevirtual 57, 3) := by decide +kernel
theorem dX8_all_5 : decode cX8_all 5 = .ok (.lshl, 1) := by decide +kernel
theorem dX8_all_6 : decode cX8_all 6 = .ok (.lconst 1, 1) := by decide +kernel
theorem dX8_all_7 : decode cX8_all 7 = .ok (.lsub, 1) := by decide +kernel
theorem dX8_all_8 : decode cX8_all 8 = .ok (.lreturn, 1) := by decide +kernel
set_option maxHeartbeats 4000000 in
set_option maxRecDepth 100000 in
theorem bX8_all {r : Int64} (hx : p.tables.exec = Jvm.exec) (hb : c.code = cX8_all) (hml : c.maxLocals = 1) (hown : s.vm.findClass RX8 = some m.cls) (hts : ∀ w ∈ tw, w.before args s = true) (hK : va_K D vwCl [(cI, .int), (cJ, .long)] s) (hP : va_P D vwCl (wdM cJ cI oM oM1 oM2 oM3 oM4 oM5 oM6 oM7 oM8 oM9 oM10 oM11 mw mt mrim mjn mhm mpn mbm mgm mpi mst mam mac mro mbe mhi mmi mgr mtr mle) H) (hR : 1 ≤ R.frames ∧ 20 ≤ R.locals ∧ cells ≤ R.cells ∧ slots ≤ R.slots) (hm : mX8_all mw mt = r) (ls : Array Slot) (hl : lv_has ls 1 [(0, .ref oM)]) (K : ∀ (pc : Nat) (ls : Array Slot), decode cX8_all pc = .ok (.lreturn, 1) → W p l e R s m args below meth c H locs cells slots Q (F0 m pc ls [.long r])) : W p l e R s m args below meth c H locs cells slots Q (F0 m 0 ls []) := by
  unfold mX8_all at hm
  refine lv_lconst (v := (1 : Int64)) hx hb dX8_all_0 (by decide) ?_
  refine lv_aload_n hx hb dX8_all_1 rfl (lv_at hl 0 rfl) ?_
  refine kX8_cells ⟨hx, hb, hml, hown, hts⟩ qw_60 hP hK hl.1 ⟨Nat.le_trans (by decide) hR.1, Nat.le_trans (by decide) hR.2.1, hR.2.2⟩ (Nat.le_of_ble_eq_true rfl) dX8_all_2 ?_
  refine lv_lshl (v := (jlshl (1 : Int64) (mX8_cells mw mt))) hx hb dX8_all_5 rfl ?_
  refine lv_lconst (v := (1 : Int64)) hx hb dX8_all_6 (by decide) ?_
  refine lv_lsub hx hb dX8_all_7 ?_
  subst hm
  exact K 8 ls dX8_all_8
set_option maxHeartbeats 4000000 in
set_option maxRecDepth 100000 in
theorem tX8_all (l : Launch) {D : va_G} {r : Int64} (hm : mX8_all mw mt = r) : Met l yX8_all (.code yX8_all cX8_all 1 (some .long) :: tw) ({ frames := 1, cells := 0, slots := 0, locals := 20 } : Room) (rdP D [.ref oM] (wdM cJ cI oM oM1 oM2 oM3 oM4 oM5 oM6 oM7 oM8 oM9 oM10 oM11 mw mt mrim mjn mhm mpn mbm mgm mpi mst mam mac mro mbe mhi mmi mgr mtr mle) [(cI, .int), (cJ, .long)]) (vp_Sl (fun q => q = r)) 0 0 (fun _ => False) := by
  refine Met.ofW (cc := cX8_all) (maxL := 1) (ret := (some .long)) (by decide) rfl ?_
  intro p e s m args below meth c s₁ B hml hv
  obtain ⟨rfl, hP, hK⟩ := hv
  have hx := B.exec
  have hb := B.bytes
  have hr := B.returns
  have hts : ∀ w ∈ tw, w.before _ s = true := fun w h => atoms_spec (ws := .code yX8_all cX8_all 1 (some .long) :: tw) B.pre w (List.mem_cons_of_mem _ h)
  have hown : s.vm.findClass RX8 = some m.cls := findClass_of_methodNamed B.named
  have hlocks := B.notSynchronized
  have hl := lv_entry ([.ref oM]) (n := 1) (Nat.le_of_ble_eq_true rfl)
  rw [lg_entry_eq]
  generalize (lg_sl ([.ref oM]) ++ List.replicate (1 - (lg_sl ([.ref oM])).length) Slot.unset).toArray = ls at hl ⊢
  refine bX8_all hx hb hml hown hts hK hP ⟨Nat.le_of_ble_eq_true rfl, Nat.le_of_ble_eq_true rfl, Nat.zero_le _, Nat.zero_le _⟩ hm ls hl (fun pc ls hd => ?_)
  exact W.lret hx hb hr (fun t ht hW => ⟨r, rfl, rfl, ht⟩) (fun q h => by cases h) hd
set_option maxHeartbeats 4000000 in
set_option maxRecDepth 100000 in
theorem kX8_all {own : String} {cc : ByteArray} {nL idx pc : Nat} {ls : Array Slot} {rest : List Value} (fx : CallFix p m c cc nL s args tw own) (hq : Cond.methodLink own idx yX8_all ∈ tw) (hP : va_P D vwCl (wdM cJ cI oM oM1 oM2 oM3 oM4 oM5 oM6 oM7 oM8 oM9 oM10 oM11 mw mt mrim mjn mhm mpn mbm mgm mpi mst mam mac mro mbe mhi mmi mgr mtr mle) H) (hK : va_K D vwCl [(cI, .int), (cJ, .long)] s) (hsz : ls.size = nL) (hR : 2 ≤ R.frames ∧ 40 ≤ R.locals ∧ cells ≤ R.cells ∧ slots ≤ R.slots) (hst : (rest.map fun v => v.category).sum ≤ 8) (hd : decode cc pc = .ok (.invokevirtual idx, 3)) (kk : W p l e R s m args below meth c H locs cells slots Q (F0 m (pc + 3) ls (.long (mX8_all mw mt) :: rest))) : W p l e R s m args below meth c H locs cells slots Q (F0 m pc ls (.ref oM :: rest)) := by
  exact vp_callSl (va_Run.run (va_runV (As := []) (rest := rest) fx (tX8_all l rfl) (cwV 0 fx.2.2.2.2 (tw_V hq qw_61 qw_62 qw_53 qw_63) rfl rfl rfl (by decide +kernel) ⟨hR.1, hR.2.1⟩) ⟨rdP_bl, va_recv hK hP (ci := 8) (q0 := 0) rfl rfl, rdP_ok hP hK⟩ rfl rfl hsz rfl (lv_room hst) hd ⟨hR.2.2.1, hR.2.2.2⟩)) (fun r9 hr9 => by first | (rw [hr9]; exact kk) | (rw [hr9.1]; exact kk))
-- X8_isPicture
def mX8_isPicture (a0 : Int32) : Int32 :=
  (mX8_in ((a0).toInt64) (0 : Int64) (4 : Int64))
theorem dX8_isPicture_0 : decode cX8_isPicture 0 = .ok (.iload_n 0, 1) := by decide +kernel
theorem dX8_isPicture_1 : decode cX8_isPicture 1 = .ok (.i2l, 1) := by decide +kernel
theorem dX8_isPicture_2 : decode cX8_isPicture 2 = .ok (.lconst 0, 1) := by decide +kernel
theorem dX8_isPicture_3 : decode cX8_isPicture 3 = .ok (.ldc2_w 61, 3) := by decide +kernel
theorem dX8_isPicture_6 : decode cX8_isPicture 6 = .ok (.invokestatic 63, 3) := by decide +kernel
theorem dX8_isPicture_9 : decode cX8_isPicture 9 = .ok (.ireturn, 1) := by decide +kernel
set_option maxHeartbeats 4000000 in
set_option maxRecDepth 100000 in
theorem bX8_isPicture {a0 : Int32} {r : Int32} (hx : p.tables.exec = Jvm.exec) (hb : c.code = cX8_isPicture) (hml : c.maxLocals = 1) (hown : s.vm.findClass RX8 = some m.cls) (hts : ∀ w ∈ tw, w.before args s = true) (hR : 1 ≤ R.frames ∧ 25 ≤ R.locals ∧ cells ≤ R.cells ∧ slots ≤ R.slots) (hm : mX8_isPicture a0 = r) (ls : Array Slot) (hl : lv_has ls 1 [(0, .int a0)]) (K : ∀ (pc : Nat) (ls : Array Slot), decode cX8_isPicture pc = .ok (.ireturn, 1) → narrow .boolean (.int r) = .int r → W p l e R s m args below meth c H locs cells slots Q (F0 m pc ls [.int r])) : W p l e R s m args below meth c H locs cells slots Q (F0 m 0 ls []) := by
  unfold mX8_isPicture at hm
  refine lv_iload_n hx hb dX8_isPicture_0 rfl (lv_at hl 0 rfl) ?_
  refine lv_i2l (v := ((a0).toInt64)) hx hb dX8_isPicture_1 rfl ?_
  refine lv_lconst (v := (0 : Int64)) hx hb dX8_isPicture_2 (by decide) ?_
  refine lv_ldc2 (v := (4 : Int64)) hx hb hown (hts _ qw_64) dX8_isPicture_3 ?_
  refine kX8_in ⟨hx, hb, hml, hown, hts⟩ qw_65 hl.1 ⟨Nat.le_trans (by decide) hR.1, Nat.le_trans (by decide) hR.2.1, hR.2.2⟩ (Nat.le_of_ble_eq_true rfl) dX8_isPicture_6 ?_
  subst hm
  exact K 9 ls dX8_isPicture_9 (zn_in _ _ _)
set_option maxHeartbeats 4000000 in
set_option maxRecDepth 100000 in
theorem tX8_isPicture (l : Launch) {a0 : Int32} {r : Int32} (hm : mX8_isPicture a0 = r) : Met l yX8_isPicture (.code yX8_isPicture cX8_isPicture 1 (some .boolean) :: tw) ({ frames := 1, cells := 0, slots := 0, locals := 25 } : Room) (va_Pc [.int a0] (fun _ => True)) (vp_Si (fun q => q = r ∧ narrow .boolean (.int q) = .int q)) 0 0 (fun _ => False) := by
  refine Met.ofW (cc := cX8_isPicture) (maxL := 1) (ret := (some .boolean)) (by decide) rfl ?_
  intro p e s m args below meth c s₁ B hml hv
  obtain ⟨rfl, -⟩ := hv
  have hx := B.exec
  have hb := B.bytes
  have hr := B.returns
  have hts : ∀ w ∈ tw, w.before _ s = true := fun w h => atoms_spec (ws := .code yX8_isPicture cX8_isPicture 1 (some .boolean) :: tw) B.pre w (List.mem_cons_of_mem _ h)
  have hown : s.vm.findClass RX8 = some m.cls := findClass_of_methodNamed B.named
  have hlocks := B.notSynchronized
  have hl := lv_entry ([.int a0]) (n := 1) (Nat.le_of_ble_eq_true rfl)
  rw [lg_entry_eq]
  generalize (lg_sl ([.int a0]) ++ List.replicate (1 - (lg_sl ([.int a0])).length) Slot.unset).toArray = ls at hl ⊢
  refine bX8_isPicture hx hb hml hown hts ⟨Nat.le_of_ble_eq_true rfl, Nat.le_of_ble_eq_true rfl, Nat.zero_le _, Nat.zero_le _⟩ hm ls hl (fun pc ls hd hz => ?_)
  exact W.zret hx hb hr hz (fun t ht hW => ⟨r, rfl, ⟨rfl, hz⟩, ht⟩) (fun q h => by cases h) hd
set_option maxHeartbeats 4000000 in
set_option maxRecDepth 100000 in
theorem kX8_isPicture {own : String} {cc : ByteArray} {nL idx pc : Nat} {ls : Array Slot} {rest : List Value} {a0 : Int32} (fx : CallFix p m c cc nL s args tw own) (hq : Cond.methodLink own idx yX8_isPicture ∈ tw) (hsz : ls.size = nL) (hR : 2 ≤ R.frames ∧ 45 ≤ R.locals ∧ cells ≤ R.cells ∧ slots ≤ R.slots) (hst : (rest.map fun v => v.category).sum ≤ 8) (hd : decode cc pc = .ok (.invokestatic idx, 3)) (kk : W p l e R s m args below meth c H locs cells slots Q (F0 m (pc + 3) ls (.int (mX8_isPicture a0) :: rest))) : W p l e R s m args below meth c H locs cells slots Q (F0 m pc ls (.int a0 :: rest)) := by
  exact vp_callSi (va_Run.run (va_runS (As := [.int a0]) (rest := rest) fx (tX8_isPicture l rfl) (va_cwS 1 fx.2.2.2.2 (tw_S2 hq qw_66 qw_53 qw_67) rfl rfl rfl (by decide +kernel) ⟨hR.1, hR.2.1⟩) ⟨fun a U g mk q => q, fun U hU hW => ⟨rfl, trivial⟩⟩ rfl rfl hsz rfl (lv_room hst) hd ⟨hR.2.2.1, hR.2.2.2⟩)) (fun r9 hr9 => by first | (rw [hr9]; exact kk) | (rw [hr9.1]; exact kk))
-- X8_isCell
def mX8_isCell (mw : Int32) (mt : Int32) (a1 : Int32) : Int32 :=
  (mX8_in ((a1).toInt64) (0 : Int64) ((((mX8_cells mw mt) - (1 : Int32))).toInt64))
theorem dX8_isCell_0 : decode cX8_isCell 0 = .ok (.iload_n 1, 1) := by decide +kernel
theorem dX8_isCell_1 : decode cX8_isCell 1 = .ok (.i2l, 1) := by decide +kernel
theorem dX8_isCell_2 : decode cX8_isCell 2 = .ok (.lconst 0, 1) := by decide +kernel
theorem dX8_isCell_3 : decode cX8_isCell 3 = .ok (.aload_n 0, 1) := by decide +kernel
theorem dX8_isCell_4 : decode cX8_isCell 4 = .ok (.invokevirtual 57, 3) := by decide +kernel
theorem dX8_isCell_7 : decode cX8_isCell 7 = .ok (.iconst 1, 1) := by decide +kernel
theorem dX8_isCell_8 : decode cX8_isCell 8 = .ok (.isub, 1) := by decide +kernel
theorem dX8_isCell_9 : decode cX8_isCell 9 = .ok (.i2l, 1) := by decide +kernel
theorem dX8_isCell_10 : decode cX8_isCell 10 = .ok (.invokestatic 63, 3) := by decide +kernel
theorem dX8_isCell_13 : decode cX8_isCell 13 = .ok (.ireturn, 1) := by decide +kernel
set_option maxHeartbeats 4000000 in
set_option maxRecDepth 100000 in
theorem bX8_isCell {a1 : Int32} {r : Int32} (hx : p.tables.exec = Jvm.exec) (hb : c.code = cX8_isCell) (hml : c.maxLocals = 2) (hown : s.vm.findClass RX8 = some m.cls) (hts : ∀ w ∈ tw, w.before args s = true) (hK : va_K D vwCl [(cI, .int), (cJ, .long)] s) (hP : va_P D vwCl (wdM cJ cI oM oM1 oM2 oM3 oM4 oM5 oM6 oM7 oM8 oM9 oM10 oM11 mw mt mrim mjn mhm mpn mbm mgm mpi mst mam mac mro mbe mhi mmi mgr mtr mle) H) (hR : 1 ≤ R.frames ∧ 25 ≤ R.locals ∧ cells ≤ R.cells ∧ slots ≤ R.slots) (hm : mX8_isCell mw mt a1 = r) (ls : Array Slot) (hl : lv_has ls 2 [(0, .ref oM), (1, .int a1)]) (K : ∀ (pc : Nat) (ls : Array Slot), decode cX8_isCell pc = .ok (.ireturn, 1) → narrow .boolean (.int r) = .int r → W p l e R s m args below meth c H locs cells slots Q (F0 m pc ls [.int r])) : W p l e R s m args below meth c H locs cells slots Q (F0 m 0 ls []) := by
  unfold mX8_isCell at hm
  refine lv_iload_n hx hb dX8_isCell_0 rfl (lv_at hl 1 rfl) ?_
  refine lv_i2l (v := ((a1).toInt64)) hx hb dX8_isCell_1 rfl ?_
  refine lv_lconst (v := (0 : Int64)) hx hb dX8_isCell_2 (by decide) ?_
  refine lv_aload_n hx hb dX8_isCell_3 rfl (lv_at hl 0 rfl) ?_
  refine kX8_cells ⟨hx, hb, hml, hown, hts⟩ qw_60 hP hK hl.1 ⟨Nat.le_trans (by decide) hR.1, Nat.le_trans (by decide) hR.2.1, hR.2.2⟩ (Nat.le_of_ble_eq_true rfl) dX8_isCell_4 ?_
  refine lv_iconst (v := (1 : Int32)) hx hb dX8_isCell_7 (by decide) ?_
  refine lv_isub hx hb dX8_isCell_8 ?_
  refine lv_i2l (v := ((((mX8_cells mw mt) - (1 : Int32))).toInt64)) hx hb dX8_isCell_9 rfl ?_
  refine kX8_in ⟨hx, hb, hml, hown, hts⟩ qw_65 hl.1 ⟨Nat.le_trans (by decide) hR.1, Nat.le_trans (by decide) hR.2.1, hR.2.2⟩ (Nat.le_of_ble_eq_true rfl) dX8_isCell_10 ?_
  subst hm
  exact K 13 ls dX8_isCell_13 (zn_in _ _ _)
set_option maxHeartbeats 4000000 in
set_option maxRecDepth 100000 in
theorem tX8_isCell (l : Launch) {D : va_G} {a1 : Int32} {r : Int32} (hm : mX8_isCell mw mt a1 = r) : Met l yX8_isCell (.code yX8_isCell cX8_isCell 2 (some .boolean) :: tw) ({ frames := 1, cells := 0, slots := 0, locals := 25 } : Room) (rdP D [.ref oM, .int a1] (wdM cJ cI oM oM1 oM2 oM3 oM4 oM5 oM6 oM7 oM8 oM9 oM10 oM11 mw mt mrim mjn mhm mpn mbm mgm mpi mst mam mac mro mbe mhi mmi mgr mtr mle) [(cI, .int), (cJ, .long)]) (vp_Si (fun q => q = r ∧ narrow .boolean (.int q) = .int q)) 0 0 (fun _ => False) := by
  refine Met.ofW (cc := cX8_isCell) (maxL := 2) (ret := (some .boolean)) (by decide) rfl ?_
  intro p e s m args below meth c s₁ B hml hv
  obtain ⟨rfl, hP, hK⟩ := hv
  have hx := B.exec
  have hb := B.bytes
  have hr := B.returns
  have hts : ∀ w ∈ tw, w.before _ s = true := fun w h => atoms_spec (ws := .code yX8_isCell cX8_isCell 2 (some .boolean) :: tw) B.pre w (List.mem_cons_of_mem _ h)
  have hown : s.vm.findClass RX8 = some m.cls := findClass_of_methodNamed B.named
  have hlocks := B.notSynchronized
  have hl := lv_entry ([.ref oM, .int a1]) (n := 2) (Nat.le_of_ble_eq_true rfl)
  rw [lg_entry_eq]
  generalize (lg_sl ([.ref oM, .int a1]) ++ List.replicate (2 - (lg_sl ([.ref oM, .int a1])).length) Slot.unset).toArray = ls at hl ⊢
  refine bX8_isCell hx hb hml hown hts hK hP ⟨Nat.le_of_ble_eq_true rfl, Nat.le_of_ble_eq_true rfl, Nat.zero_le _, Nat.zero_le _⟩ hm ls hl (fun pc ls hd hz => ?_)
  exact W.zret hx hb hr hz (fun t ht hW => ⟨r, rfl, ⟨rfl, hz⟩, ht⟩) (fun q h => by cases h) hd
set_option maxHeartbeats 4000000 in
set_option maxRecDepth 100000 in
theorem kX8_isCell {own : String} {cc : ByteArray} {nL idx pc : Nat} {ls : Array Slot} {rest : List Value} {a1 : Int32} (fx : CallFix p m c cc nL s args tw own) (hq : Cond.methodLink own idx yX8_isCell ∈ tw) (hP : va_P D vwCl (wdM cJ cI oM oM1 oM2 oM3 oM4 oM5 oM6 oM7 oM8 oM9 oM10 oM11 mw mt mrim mjn mhm mpn mbm mgm mpi mst mam mac mro mbe mhi mmi mgr mtr mle) H) (hK : va_K D vwCl [(cI, .int), (cJ, .long)] s) (hsz : ls.size = nL) (hR : 2 ≤ R.frames ∧ 46 ≤ R.locals ∧ cells ≤ R.cells ∧ slots ≤ R.slots) (hst : (rest.map fun v => v.category).sum ≤ 8) (hd : decode cc pc = .ok (.invokevirtual idx, 3)) (kk : W p l e R s m args below meth c H locs cells slots Q (F0 m (pc + 3) ls (.int (mX8_isCell mw mt a1) :: rest))) : W p l e R s m args below meth c H locs cells slots Q (F0 m pc ls (.int a1 :: .ref oM :: rest)) := by
  exact vp_callSi (va_Run.run (va_runV (As := [.int a1]) (rest := rest) fx (tX8_isCell l rfl) (cwV 1 fx.2.2.2.2 (tw_V hq qw_68 qw_69 qw_53 qw_70) rfl rfl rfl (by decide +kernel) ⟨hR.1, hR.2.1⟩) ⟨rdP_bl, va_recv hK hP (ci := 8) (q0 := 0) rfl rfl, rdP_ok hP hK⟩ rfl rfl hsz rfl (lv_room hst) hd ⟨hR.2.2.1, hR.2.2.2⟩)) (fun r9 hr9 => by first | (rw [hr9]; exact kk) | (rw [hr9.1]; exact kk))
-- X8_has
def mX8_has (a0 : Int64) (a2 : Int32) : Int32 :=
  (if ((jlshr a0 a2) &&& (1 : Int64)) = (1 : Int64) then (1 : Int32) else (0 : Int32))
theorem dX8_has_0 : decode cX8_has 0 = .ok (.lload_n 0, 1) := by decide +kernel
theorem dX8_has_1 : decode cX8_has 1 = .ok (.iload_n 2, 1) := by decide +kernel
theorem dX8_has_2 : decode cX8_has 2 = .ok (.lshr, 1) := by decide +kernel
theorem dX8_has_3 : decode cX8_has 3 = .ok (.lconst 1, 1) := by decide +kernel
theorem dX8_has_4 : decode cX8_has 4 = .ok (.land, 1) := by decide +kernel
theorem dX8_has_5 : decode cX8_has 5 = .ok (.lconst 1, 1) := by decide +kernel
theorem dX8_has_6 : decode cX8_has 6 = .ok (.lcmp, 1) := by decide +kernel
theorem dX8_has_7 : decode cX8_has 7 = .ok (.ifCond .ne 7, 3) := by decide +kernel
theorem dX8_has_10 : decode cX8_has 10 = .ok (.iconst 1, 1) := by decide +kernel
theorem dX8_has_11 : decode cX8_has 11 = .ok (.goto 4, 3) := by decide +kernel
theorem dX8_has_14 : decode cX8_has 14 = .ok (.iconst 0, 1) := by decide +kernel
theorem dX8_has_15 : decode cX8_has 15 = .ok (.ireturn, 1) := by decide +kernel
set_option maxHeartbeats 4000000 in
set_option maxRecDepth 100000 in
theorem bX8_has {a0 : Int64} {a2 : Int32} {r : Int32} (hx : p.tables.exec = Jvm.exec) (hb : c.code = cX8_has) (hml : c.maxLocals = 3) (hown : s.vm.findClass RX8 = some m.cls) (hts : ∀ w ∈ tw, w.before args s = true) (hR : 0 ≤ R.frames ∧ 0 ≤ R.locals ∧ cells ≤ R.cells ∧ slots ≤ R.slots) (hm : mX8_has a0 a2 = r) (ls : Array Slot) (hl : lv_has ls 3 [(0, .long a0), (2, .int a2)]) (K : ∀ (pc : Nat) (ls : Array Slot), decode cX8_has pc = .ok (.ireturn, 1) → narrow .boolean (.int r) = .int r → W p l e R s m args below meth c H locs cells slots Q (F0 m pc ls [.int r])) : W p l e R s m args below meth c H locs cells slots Q (F0 m 0 ls []) := by
  unfold mX8_has at hm
  refine lv_lload_n hx hb dX8_has_0 rfl (lv_at hl 0 rfl) ?_
  refine lv_iload_n hx hb dX8_has_1 rfl (lv_at hl 1 rfl) ?_
  refine lv_lshr (v := (jlshr a0 a2)) hx hb dX8_has_2 rfl ?_
  refine lv_lconst (v := (1 : Int64)) hx hb dX8_has_3 (by decide) ?_
  refine lv_land hx hb dX8_has_4 ?_
  refine lv_lconst (v := (1 : Int64)) hx hb dX8_has_5 (by decide) ?_
  refine W.lcmp hx hb dX8_has_6 ?_
  refine lv_if_ne (tgt := 14) hx hb dX8_has_7 (by decide) (fun c1 => ?_) (fun c1 => ?_)
  · have c1 := fun h9 => c1 ((lg_cmp_eq ((jlshr a0 a2) &&& (1 : Int64)) (1 : Int64)).mpr h9)
    rw [if_neg c1] at hm
    refine lv_iconst (v := (0 : Int32)) hx hb dX8_has_14 (by decide) ?_
    subst hm
    exact K 15 ls dX8_has_15 rfl
  · have c1 := (lg_cmp_eq ((jlshr a0 a2) &&& (1 : Int64)) (1 : Int64)).mp c1
    rw [if_pos c1] at hm
    refine lv_iconst (v := (1 : Int32)) hx hb dX8_has_10 (by decide) ?_
    refine lv_goto (tgt := 15) hx hb dX8_has_11 (by decide) ?_
    subst hm
    exact K 15 ls dX8_has_15 rfl
set_option maxHeartbeats 4000000 in
set_option maxRecDepth 100000 in
theorem tX8_has (l : Launch) {a0 : Int64} {a2 : Int32} {r : Int32} (hm : mX8_has a0 a2 = r) : Met l yX8_has (.code yX8_has cX8_has 3 (some .boolean) :: tw) ({ frames := 0, cells := 0, slots := 0, locals := 0 } : Room) (va_Pc [.long a0, .int a2] (fun _ => True)) (vp_Si (fun q => q = r ∧ narrow .boolean (.int q) = .int q)) 0 0 (fun _ => False) := by
  refine Met.ofW (cc := cX8_has) (maxL := 3) (ret := (some .boolean)) (by decide) rfl ?_
  intro p e s m args below meth c s₁ B hml hv
  obtain ⟨rfl, -⟩ := hv
  have hx := B.exec
  have hb := B.bytes
  have hr := B.returns
  have hts : ∀ w ∈ tw, w.before _ s = true := fun w h => atoms_spec (ws := .code yX8_has cX8_has 3 (some .boolean) :: tw) B.pre w (List.mem_cons_of_mem _ h)
  have hown : s.vm.findClass RX8 = some m.cls := findClass_of_methodNamed B.named
  have hlocks := B.notSynchronized
  have hl := lv_entry ([.long a0, .int a2]) (n := 3) (Nat.le_of_ble_eq_true rfl)
  rw [lg_entry_eq]
  generalize (lg_sl ([.long a0, .int a2]) ++ List.replicate (3 - (lg_sl ([.long a0, .int a2])).length) Slot.unset).toArray = ls at hl ⊢
  refine bX8_has hx hb hml hown hts ⟨Nat.le_of_ble_eq_true rfl, Nat.le_of_ble_eq_true rfl, Nat.zero_le _, Nat.zero_le _⟩ hm ls hl (fun pc ls hd hz => ?_)
  exact W.zret hx hb hr hz (fun t ht hW => ⟨r, rfl, ⟨rfl, hz⟩, ht⟩) (fun q h => by cases h) hd
set_option maxHeartbeats 4000000 in
set_option maxRecDepth 100000 in
theorem kX8_has {own : String} {cc : ByteArray} {nL idx pc : Nat} {ls : Array Slot} {rest : List Value} {a0 : Int64} {a2 : Int32} (fx : CallFix p m c cc nL s args tw own) (hq : Cond.methodLink own idx yX8_has ∈ tw) (hsz : ls.size = nL) (hR : 1 ≤ R.frames ∧ 22 ≤ R.locals ∧ cells ≤ R.cells ∧ slots ≤ R.slots) (hst : (rest.map fun v => v.category).sum ≤ 8) (hd : decode cc pc = .ok (.invokestatic idx, 3)) (kk : W p l e R s m args below meth c H locs cells slots Q (F0 m (pc + 3) ls (.int (mX8_has a0 a2) :: rest))) : W p l e R s m args below meth c H locs cells slots Q (F0 m pc ls (.int a2 :: .long a0 :: rest)) := by
  exact vp_callSi (va_Run.run (va_runS (As := [.long a0, .int a2]) (rest := rest) fx (tX8_has l rfl) (va_cwS 2 fx.2.2.2.2 (tw_S2 hq qw_71 qw_53 qw_72) rfl rfl rfl (by decide +kernel) ⟨hR.1, hR.2.1⟩) ⟨fun a U g mk q => q, fun U hU hW => ⟨rfl, trivial⟩⟩ rfl rfl hsz rfl (lv_room hst) hd ⟨hR.2.2.1, hR.2.2.2⟩)) (fun r9 hr9 => by first | (rw [hr9]; exact kk) | (rw [hr9.1]; exact kk))
-- X8_many
def mX8_many_L4 (n : Nat) : Nat → (Int32) → (Int64) → Option ((Int32))
  | 0, _, _ => none
  | k + 1, v2, v3 => (if v3 = (0 : Int64) then some (v2) else mX8_many_L4 n k (v2 + (1 : Int32)) (v3 &&& (v3 - (1 : Int64))))
def mX8_many (n : Nat) (a0 : Int64) : Option Int32 :=
  jb (mX8_many_L4 n n (0 : Int32) a0) (fun (y3 : Int32) => (some y3))
theorem dX8_many_0 : decode cX8_many 0 = .ok (.iconst 0, 1) := by decide +kernel
theorem dX8_many_1 : decode cX8_many 1 = .ok (.istore_n 2, 1) := by decide +kernel
theorem dX8_many_2 : decode cX8_many 2 = .ok (.lload_n 0, 1) := by decide +kernel
theorem dX8_many_3 : decode cX8_many 3 = .ok (.lstore_n 3, 1) := by decide +kernel
theorem dX8_many_4 : decode cX8_many 4 = .ok (.lload_n 3, 1) := by decide +kernel
theorem dX8_many_5 : decode cX8_many 5 = .ok (.lconst 0, 1) := by decide +kernel
theorem dX8_many_6 : decode cX8_many 6 = .ok (.lcmp, 1) := by decide +kernel
theorem dX8_many_7 : decode cX8_many 7 = .ok (.ifCond .eq 15, 3) := by decide +kernel
theorem dX8_many_10 : decode cX8_many 10 = .ok (.iinc 2 1, 3) := by decide +kernel
theorem dX8_many_13 : decode cX8_many 13 = .ok (.lload_n 3, 1) := by decide +kernel
theorem dX8_many_14 : decode cX8_many 14 = .ok (.lload_n 3, 1) := by decide +kernel
theorem dX8_many_15 : decode cX8_many 15 = .ok (.lconst 1, 1) := by decide +kernel
theorem dX8_many_16 : decode cX8_many 16 = .ok (.lsub, 1) := by decide +kernel
theorem dX8_many_17 : decode cX8_many 17 = .ok (.land, 1) := by decide +kernel
theorem dX8_many_18 : decode cX8_many 18 = .ok (.lstore_n 3, 1) := by decide +kernel
theorem dX8_many_19 : decode cX8_many 19 = .ok (.goto (-15), 3) := by decide +kernel
theorem dX8_many_22 : decode cX8_many 22 = .ok (.iload_n 2, 1) := by decide +kernel
theorem dX8_many_23 : decode cX8_many 23 = .ok (.ireturn, 1) := by decide +kernel
set_option maxHeartbeats 4000000 in
set_option maxRecDepth 100000 in
theorem wX8_many_L4 {n : Nat} (hx : p.tables.exec = Jvm.exec) (hb : c.code = cX8_many) (hml : c.maxLocals = 5) (hown : s.vm.findClass RX8 = some m.cls) (hts : ∀ w ∈ tw, w.before args s = true) (hR : 0 ≤ R.frames ∧ 0 ≤ R.locals ∧ cells ≤ R.cells ∧ slots ≤ R.slots) : ∀ (k : Nat) (v2 : Int32) (v3 : Int64) (x2 : Int32), mX8_many_L4 n k v2 v3 = some (x2) → ∀ ls : Array Slot, lv_has ls 5 [(2, .int v2), (3, .long v3)] → (∀ ls : Array Slot, lv_has ls 5 [(2, .int x2)] → W p l e R s m args below meth c H locs cells slots Q (F0 m 22 ls [])) → W p l e R s m args below meth c H locs cells slots Q (F0 m 4 ls []) := by
  intro k
  induction k with
  | zero => intro v2 v3 x2 hm; rw [mX8_many_L4] at hm; cases hm
  | succ k ih =>
    intro v2 v3 x2 hm ls hl K0
    rw [mX8_many_L4] at hm
    refine lv_lload_n hx hb dX8_many_4 rfl (lv_at hl 1 rfl) ?_
    refine lv_lconst (v := (0 : Int64)) hx hb dX8_many_5 (by decide) ?_
    refine W.lcmp hx hb dX8_many_6 ?_
    refine lv_if_eq (tgt := 22) hx hb dX8_many_7 (by decide) (fun c2 => ?_) (fun c2 => ?_)
    · have c2 := (lg_cmp_eq v3 (0 : Int64)).mp c2
      rw [if_pos c2] at hm
      have hm := Option.some.inj hm
      have e9 : x2 = v2 := (congrArg (fun q => q) hm).symm
      rw [e9] at K0
      exact K0 ls (lv_sub hl [0] rfl)
    · have c2 := fun h9 => c2 ((lg_cmp_eq v3 (0 : Int64)).mpr h9)
      rw [if_neg c2] at hm
      refine lv_iinc (v := (v2 + (1 : Int32))) (lv' := [(2, .int (v2 + (1 : Int32))), (3, .long v3)]) hx hb dX8_many_10 hl (k := 0) rfl (by rfl) (by decide) rfl (fun ls hl => ?_)
      refine lv_lload_n hx hb dX8_many_13 rfl (lv_at hl 1 rfl) ?_
      refine lv_lload_n hx hb dX8_many_14 rfl (lv_at hl 1 rfl) ?_
      refine lv_lconst (v := (1 : Int64)) hx hb dX8_many_15 (by decide) ?_
      refine lv_lsub hx hb dX8_many_16 ?_
      refine lv_land hx hb dX8_many_17 ?_
      refine lv_lstore_n (lv' := [(3, .long (v3 &&& (v3 - (1 : Int64)))), (2, .int (v2 + (1 : Int32)))]) hx hb dX8_many_18 rfl hl (by decide) rfl (fun ls hl => ?_)
      refine lv_goto (tgt := 4) hx hb dX8_many_19 (by decide) ?_
      exact ih _ _ _ hm ls (lv_sub hl [1, 0] rfl) K0
set_option maxHeartbeats 4000000 in
set_option maxRecDepth 100000 in
theorem bX8_many {n : Nat} {a0 : Int64} {r : Int32} (hx : p.tables.exec = Jvm.exec) (hb : c.code = cX8_many) (hml : c.maxLocals = 5) (hown : s.vm.findClass RX8 = some m.cls) (hts : ∀ w ∈ tw, w.before args s = true) (hR : 0 ≤ R.frames ∧ 0 ≤ R.locals ∧ cells ≤ R.cells ∧ slots ≤ R.slots) (hm : mX8_many n a0 = some r) (ls : Array Slot) (hl : lv_has ls 5 [(0, .long a0)]) (K : ∀ (pc : Nat) (ls : Array Slot), decode cX8_many pc = .ok (.ireturn, 1) → W p l e R s m args below meth c H locs cells slots Q (F0 m pc ls [.int r])) : W p l e R s m args below meth c H locs cells slots Q (F0 m 0 ls []) := by
  unfold mX8_many at hm
  refine lv_iconst (v := (0 : Int32)) hx hb dX8_many_0 (by decide) ?_
  refine lv_istore_n (lv' := [(2, .int (0 : Int32)), (0, .long a0)]) hx hb dX8_many_1 rfl hl (by decide) rfl (fun ls hl => ?_)
  refine lv_lload_n hx hb dX8_many_2 rfl (lv_at hl 1 rfl) ?_
  refine lv_lstore_n (lv' := [(3, .long a0), (2, .int (0 : Int32)), (0, .long a0)]) hx hb dX8_many_3 rfl hl (by decide) rfl (fun ls hl => ?_)
  obtain ⟨y3, h4, hm⟩ := jb_out hm
  refine wX8_many_L4 hx hb hml hown hts hR n _ _ _  h4 ls (lv_sub hl [1, 0] rfl) (fun ls hl => ?_)
  refine lv_iload_n hx hb dX8_many_22 rfl (lv_at hl 0 rfl) ?_
  have hm := Option.some.inj hm
  subst hm
  exact K 23 ls dX8_many_23
set_option maxHeartbeats 4000000 in
set_option maxRecDepth 100000 in
theorem tX8_many (l : Launch) {n : Nat} {a0 : Int64} {r : Int32} (hm : mX8_many n a0 = some r) : Met l yX8_many (.code yX8_many cX8_many 5 (some .int) :: tw) ({ frames := 0, cells := 0, slots := 0, locals := 0 } : Room) (va_Pc [.long a0] (fun _ => True)) (vp_Si (fun q => q = r)) 0 0 (fun _ => False) := by
  refine Met.ofW (cc := cX8_many) (maxL := 5) (ret := (some .int)) (by decide) rfl ?_
  intro p e s m args below meth c s₁ B hml hv
  obtain ⟨rfl, -⟩ := hv
  have hx := B.exec
  have hb := B.bytes
  have hr := B.returns
  have hts : ∀ w ∈ tw, w.before _ s = true := fun w h => atoms_spec (ws := .code yX8_many cX8_many 5 (some .int) :: tw) B.pre w (List.mem_cons_of_mem _ h)
  have hown : s.vm.findClass RX8 = some m.cls := findClass_of_methodNamed B.named
  have hlocks := B.notSynchronized
  have hl := lv_entry ([.long a0]) (n := 5) (Nat.le_of_ble_eq_true rfl)
  rw [lg_entry_eq]
  generalize (lg_sl ([.long a0]) ++ List.replicate (5 - (lg_sl ([.long a0])).length) Slot.unset).toArray = ls at hl ⊢
  refine bX8_many hx hb hml hown hts ⟨Nat.le_of_ble_eq_true rfl, Nat.le_of_ble_eq_true rfl, Nat.zero_le _, Nat.zero_le _⟩ hm ls hl (fun pc ls hd => ?_)
  exact W.iret hx hb hr (fun t ht hW => ⟨r, rfl, rfl, ht⟩) (fun q h => by cases h) hd
set_option maxHeartbeats 4000000 in
set_option maxRecDepth 100000 in
theorem kX8_many {own : String} {cc : ByteArray} {nL idx pc : Nat} {ls : Array Slot} {rest : List Value} {n : Nat} {a0 : Int64} {r : Int32} (fx : CallFix p m c cc nL s args tw own) (hq : Cond.methodLink own idx yX8_many ∈ tw) (hm : mX8_many n a0 = some r) (hsz : ls.size = nL) (hR : 1 ≤ R.frames ∧ 24 ≤ R.locals ∧ cells ≤ R.cells ∧ slots ≤ R.slots) (hst : (rest.map fun v => v.category).sum ≤ 8) (hd : decode cc pc = .ok (.invokestatic idx, 3)) (kk : W p l e R s m args below meth c H locs cells slots Q (F0 m (pc + 3) ls (.int r :: rest))) : W p l e R s m args below meth c H locs cells slots Q (F0 m pc ls (.long a0 :: rest)) := by
  exact vp_callSi (va_Run.run (va_runS (As := [.long a0]) (rest := rest) fx (tX8_many l hm) (va_cwS 1 fx.2.2.2.2 (tw_S2 hq qw_73 qw_53 qw_74) rfl rfl rfl (by decide +kernel) ⟨hR.1, hR.2.1⟩) ⟨fun a U g mk q => q, fun U hU hW => ⟨rfl, trivial⟩⟩ rfl rfl hsz rfl (lv_room hst) hd ⟨hR.2.2.1, hR.2.2.2⟩)) (fun r9 hr9 => by first | (rw [hr9]; exact kk) | (rw [hr9.1]; exact kk))
-- X8_boxOf
def mX8_boxOf_L5 (n : Nat) (v2 : Int32) (mw : Int32) (v1 : Int32) : Nat → (Int64) → (Int32) → Option ((Int64))
  | 0, _, _ => none
  | k + 1, v3, v5 => (if v2 < v5 then some (v3) else gd (¬ mw = 0) (gd (¬ mw = 0) (gd (¬ mw = 0) (jl (if (mX8_in (((jrem v5 mw)).toInt64) (((jrem v1 mw)).toInt64) (((jrem v2 mw)).toInt64)) = 0 then (0 : Int64) else (jlshl (1 : Int64) v5)) (fun j7 => mX8_boxOf_L5 n v2 mw v1 k (v3 ||| j7) (v5 + (1 : Int32)))))))
def mX8_boxOf (n : Nat) (mw : Int32) (a1 : Int32) (a2 : Int32) : Option Int64 :=
  jb (mX8_boxOf_L5 n a2 mw a1 n (0 : Int64) a1) (fun (y11 : Int64) => (some y11))
theorem dX8_boxOf_0 : decode cX8_boxOf 0 = .ok (.lconst 0, 1) := by decide +kernel
theorem dX8_boxOf_1 : decode cX8_boxOf 1 = .ok (.lstore_n 3, 1) := by decide +kernel
theorem dX8_boxOf_2 : decode cX8_boxOf 2 = .ok (.iload_n 1, 1) := by decide +kernel
theorem dX8_boxOf_3 : decode cX8_boxOf 3 = .ok (.istore 5, 2) := by decide +kernel
theorem dX8_boxOf_5 : decode cX8_boxOf 5 = .ok (.iload 5, 2) := by decide +kernel
theorem dX8_boxOf_7 : decode cX8_boxOf 7 = .ok (.iload_n 2, 1) := by decide +kernel
theorem dX8_boxOf_8 : decode cX8_boxOf 8 = .ok (.if_icmp .gt 48, 3) := by decide +kernel
theorem dX8_boxOf_11 : decode cX8_boxOf 11 = .ok (.lload_n 3, 1) := by decide +kernel
theorem dX8_boxOf_12 : decode cX8_boxOf 12 = .ok (.iload 5, 2) := by decide +kernel
theorem dX8_boxOf_14 : decode cX8_boxOf 14 = .ok (.aload_n 0, 1) := by decide +kernel
theorem dX8_boxOf_15 : decode cX8_boxOf 15 = .ok (.getfield 7, 3) := by decide +kernel
theorem dX8_boxOf_18 : decode cX8_boxOf 18 = .ok (.irem, 1) := by decide +kernel
theorem dX8_boxOf_19 : decode cX8_boxOf 19 = .ok (.i2l, 1) := by decide +kernel
theorem dX8_boxOf_20 : decode cX8_boxOf 20 = .ok (.iload_n 1, 1) := by decide +kernel
theorem dX8_boxOf_21 : decode cX8_boxOf 21 = .ok (.aload_n 0, 1) := by decide +kernel
theorem dX8_boxOf_22 : decode cX8_boxOf 22 = .ok (.getfield 7, 3) := by decide +kernel
theorem dX8_boxOf_25 : decode cX8_boxOf 25 = .ok (.irem, 1) := by decide +kernel
theorem dX8_boxOf_26 : decode cX8_boxOf 26 = .ok (.i2l, 1) := by decide +kernel
theorem dX8_boxOf_27 : decode cX8_boxOf 27 = .ok (.iload_n 2, 1) := by decide +kernel
theorem dX8_boxOf_28 : decode cX8_boxOf 28 = .ok (.aload_n 0, 1) := by decide +kernel
theorem dX8_boxOf_29 : decode cX8_boxOf 29 = .ok (.getfield 7, 3) := by decide +kernel
theorem dX8_boxOf_32 : decode cX8_boxOf 32 = .ok (.irem, 1) := by decide +kernel
theorem dX8_boxOf_33 : decode cX8_boxOf 33 = .ok (.i2l, 1) := by decide +kernel
theorem dX8_boxOf_34 : decode cX8_boxOf 34 = .ok (.invokestatic 63, 3) := by decide +kernel
theorem dX8_boxOf_37 : decode cX8_boxOf 37 = .ok (.ifCond .eq 10, 3) := by decide +kernel
theorem dX8_boxOf_40 : decode cX8_boxOf 40 = .ok (.lconst 1, 1) := by decide +kernel
theorem dX8_boxOf_41 : decode cX8_boxOf 41 = .ok (.iload 5, 2) := by decide +kernel
theorem dX8_boxOf_43 : decode cX8_boxOf 43 = .ok (.lshl, 1) := by decide +kernel
theorem dX8_boxOf_44 : decode cX8_boxOf 44 = .ok (.goto 4, 3) := by decide +kernel
theorem dX8_boxOf_47 : decode cX8_boxOf 47 = .ok (.lconst 0, 1) := by decide +kernel
theorem dX8_boxOf_48 : decode cX8_boxOf 48 = .ok (.lor, 1) := by decide +kernel
theorem dX8_boxOf_49 : decode cX8_boxOf 49 = .ok (.lstore_n 3, 1) := by decide +kernel
theorem dX8_boxOf_50 : decode cX8_boxOf 50 = .ok (.iinc 5 1, 3) := by decide +kernel
theorem dX8_boxOf_53 : decode cX8_boxOf 53 = .ok (.goto (-48), 3) := by decide +kernel
theorem dX8_boxOf_56 : decode cX8_boxOf 56 = .ok (.lload_n 3, 1) := by decide +kernel
theorem dX8_boxOf_57 : decode cX8_boxOf 57 = .ok (.lreturn, 1) := by decide +kernel
set_option maxHeartbeats 4000000 in
set_option maxRecDepth 100000 in
theorem wX8_boxOf_L5 {n : Nat} {v1 : Int32} {v2 : Int32} (hx : p.tables.exec = Jvm.exec) (hb : c.code = cX8_boxOf) (hml : c.maxLocals = 6) (hown : s.vm.findClass RX8 = some m.cls) (hts : ∀ w ∈ tw, w.before args s = true) (hK : va_K D vwCl [(cI, .int), (cJ, .long)] s) (hP : va_P D vwCl (wdM cJ cI oM oM1 oM2 oM3 oM4 oM5 oM6 oM7 oM8 oM9 oM10 oM11 mw mt mrim mjn mhm mpn mbm mgm mpi mst mam mac mro mbe mhi mmi mgr mtr mle) H) (hR : 1 ≤ R.frames ∧ 25 ≤ R.locals ∧ cells ≤ R.cells ∧ slots ≤ R.slots) : ∀ (k : Nat) (v3 : Int64) (v5 : Int32) (x3 : Int64), mX8_boxOf_L5 n v2 mw v1 k v3 v5 = some (x3) → ∀ ls : Array Slot, lv_has ls 6 [(0, .ref oM), (1, .int v1), (2, .int v2), (3, .long v3), (5, .int v5)] → (∀ ls : Array Slot, lv_has ls 6 [(3, .long x3)] → W p l e R s m args below meth c H locs cells slots Q (F0 m 56 ls [])) → W p l e R s m args below meth c H locs cells slots Q (F0 m 5 ls []) := by
  intro k
  induction k with
  | zero => intro v3 v5 x3 hm; rw [mX8_boxOf_L5] at hm; cases hm
  | succ k ih =>
    intro v3 v5 x3 hm ls hl K0
    rw [mX8_boxOf_L5] at hm
    refine lv_iload hx hb dX8_boxOf_5 (lv_at hl 4 rfl) ?_
    refine lv_iload_n hx hb dX8_boxOf_7 rfl (lv_at hl 2 rfl) ?_
    refine lv_icmp_gt (tgt := 56) hx hb dX8_boxOf_8 (by decide) (fun c2 => ?_) (fun c2 => ?_)
    · rw [if_pos c2] at hm
      have hm := Option.some.inj hm
      have e9 : x3 = v3 := (congrArg (fun q => q) hm).symm
      rw [e9] at K0
      exact K0 ls (lv_sub hl [3] rfl)
    · rw [if_neg c2] at hm
      refine lv_lload_n hx hb dX8_boxOf_11 rfl (lv_at hl 3 rfl) ?_
      refine lv_iload hx hb dX8_boxOf_12 (lv_at hl 4 rfl) ?_
      refine lv_aload_n hx hb dX8_boxOf_14 rfl (lv_at hl 0 rfl) ?_
      refine va_get (D := D) (ci := 8) (v := .int mw) (C := RX8) (T := TX8) (N := 19) hx hb hts tnX8 hown hK hP 0 rfl rfl 0 (by decide) (hts _ qw_55) (fun _ h9 => h9) rfl dX8_boxOf_15 ?_
      obtain ⟨g3, hm⟩ := gd_out hm
      refine lv_irem hx hb dX8_boxOf_18 g3 ?_
      refine lv_i2l (v := (((jrem v5 mw)).toInt64)) hx hb dX8_boxOf_19 rfl ?_
      refine lv_iload_n hx hb dX8_boxOf_20 rfl (lv_at hl 1 rfl) ?_
      refine lv_aload_n hx hb dX8_boxOf_21 rfl (lv_at hl 0 rfl) ?_
      refine va_get (D := D) (ci := 8) (v := .int mw) (C := RX8) (T := TX8) (N := 19) hx hb hts tnX8 hown hK hP 0 rfl rfl 0 (by decide) (hts _ qw_55) (fun _ h9 => h9) rfl dX8_boxOf_22 ?_
      obtain ⟨g4, hm⟩ := gd_out hm
      refine lv_irem hx hb dX8_boxOf_25 g4 ?_
      refine lv_i2l (v := (((jrem v1 mw)).toInt64)) hx hb dX8_boxOf_26 rfl ?_
      refine lv_iload_n hx hb dX8_boxOf_27 rfl (lv_at hl 2 rfl) ?_
      refine lv_aload_n hx hb dX8_boxOf_28 rfl (lv_at hl 0 rfl) ?_
      refine va_get (D := D) (ci := 8) (v := .int mw) (C := RX8) (T := TX8) (N := 19) hx hb hts tnX8 hown hK hP 0 rfl rfl 0 (by decide) (hts _ qw_55) (fun _ h9 => h9) rfl dX8_boxOf_29 ?_
      obtain ⟨g5, hm⟩ := gd_out hm
      refine lv_irem hx hb dX8_boxOf_32 g5 ?_
      refine lv_i2l (v := (((jrem v2 mw)).toInt64)) hx hb dX8_boxOf_33 rfl ?_
      refine kX8_in ⟨hx, hb, hml, hown, hts⟩ qw_65 hl.1 ⟨Nat.le_trans (by decide) hR.1, Nat.le_trans (by decide) hR.2.1, hR.2.2⟩ (Nat.le_of_ble_eq_true rfl) dX8_boxOf_34 ?_
      obtain ⟨j7, hi8, hm⟩ := jl_out hm
      have key9 : ∀ (ls : Array Slot), lv_has ls 6 [(0, .ref oM), (1, .int v1), (2, .int v2), (5, .int v5)] → W p l e R s m args below meth c H locs cells slots Q (F0 m 48 ls [.long j7, .long v3]) := by
        intro ls hl
        refine lv_lor hx hb dX8_boxOf_48 ?_
        refine lv_lstore_n (lv' := [(3, .long (v3 ||| j7)), (0, .ref oM), (1, .int v1), (2, .int v2), (5, .int v5)]) hx hb dX8_boxOf_49 rfl hl (by decide) rfl (fun ls hl => ?_)
        refine lv_iinc (v := (v5 + (1 : Int32))) (lv' := [(5, .int (v5 + (1 : Int32))), (3, .long (v3 ||| j7)), (0, .ref oM), (1, .int v1), (2, .int v2)]) hx hb dX8_boxOf_50 hl (k := 4) rfl (by rfl) (by decide) rfl (fun ls hl => ?_)
        refine lv_goto (tgt := 5) hx hb dX8_boxOf_53 (by decide) ?_
        exact ih _ _ _ hm ls (lv_sub hl [2, 3, 4, 1, 0] rfl) K0
      refine lv_if_eq (tgt := 47) hx hb dX8_boxOf_37 (by decide) (fun c10 => ?_) (fun c10 => ?_)
      · rw [if_pos c10] at hi8
        refine lv_lconst (v := (0 : Int64)) hx hb dX8_boxOf_47 (by decide) ?_
        rw [hi8] at key9
        exact key9 ls (lv_sub hl [0, 1, 2, 4] rfl)
      · rw [if_neg c10] at hi8
        refine lv_lconst (v := (1 : Int64)) hx hb dX8_boxOf_40 (by decide) ?_
        refine lv_iload hx hb dX8_boxOf_41 (lv_at hl 4 rfl) ?_
        refine lv_lshl (v := (jlshl (1 : Int64) v5)) hx hb dX8_boxOf_43 rfl ?_
        refine lv_goto (tgt := 48) hx hb dX8_boxOf_44 (by decide) ?_
        rw [hi8] at key9
        exact key9 ls (lv_sub hl [0, 1, 2, 4] rfl)
set_option maxHeartbeats 4000000 in
set_option maxRecDepth 100000 in
theorem bX8_boxOf {n : Nat} {a1 : Int32} {a2 : Int32} {r : Int64} (hx : p.tables.exec = Jvm.exec) (hb : c.code = cX8_boxOf) (hml : c.maxLocals = 6) (hown : s.vm.findClass RX8 = some m.cls) (hts : ∀ w ∈ tw, w.before args s = true) (hK : va_K D vwCl [(cI, .int), (cJ, .long)] s) (hP : va_P D vwCl (wdM cJ cI oM oM1 oM2 oM3 oM4 oM5 oM6 oM7 oM8 oM9 oM10 oM11 mw mt mrim mjn mhm mpn mbm mgm mpi mst mam mac mro mbe mhi mmi mgr mtr mle) H) (hR : 1 ≤ R.frames ∧ 25 ≤ R.locals ∧ cells ≤ R.cells ∧ slots ≤ R.slots) (hm : mX8_boxOf n mw a1 a2 = some r) (ls : Array Slot) (hl : lv_has ls 6 [(0, .ref oM), (1, .int a1), (2, .int a2)]) (K : ∀ (pc : Nat) (ls : Array Slot), decode cX8_boxOf pc = .ok (.lreturn, 1) → W p l e R s m args below meth c H locs cells slots Q (F0 m pc ls [.long r])) : W p l e R s m args below meth c H locs cells slots Q (F0 m 0 ls []) := by
  unfold mX8_boxOf at hm
  refine lv_lconst (v := (0 : Int64)) hx hb dX8_boxOf_0 (by decide) ?_
  refine lv_lstore_n (lv' := [(3, .long (0 : Int64)), (0, .ref oM), (1, .int a1), (2, .int a2)]) hx hb dX8_boxOf_1 rfl hl (by decide) rfl (fun ls hl => ?_)
  refine lv_iload_n hx hb dX8_boxOf_2 rfl (lv_at hl 2 rfl) ?_
  refine lv_istore (lv' := [(5, .int a1), (3, .long (0 : Int64)), (0, .ref oM), (1, .int a1), (2, .int a2)]) hx hb dX8_boxOf_3 hl (by decide) rfl (fun ls hl => ?_)
  obtain ⟨y11, h12, hm⟩ := jb_out hm
  refine wX8_boxOf_L5 hx hb hml hown hts hK hP hR n _ _ _  h12 ls (lv_sub hl [2, 3, 4, 1, 0] rfl) (fun ls hl => ?_)
  refine lv_lload_n hx hb dX8_boxOf_56 rfl (lv_at hl 0 rfl) ?_
  have hm := Option.some.inj hm
  subst hm
  exact K 57 ls dX8_boxOf_57
set_option maxHeartbeats 4000000 in
set_option maxRecDepth 100000 in
theorem tX8_boxOf (l : Launch) {D : va_G} {n : Nat} {a1 : Int32} {a2 : Int32} {r : Int64} (hm : mX8_boxOf n mw a1 a2 = some r) : Met l yX8_boxOf (.code yX8_boxOf cX8_boxOf 6 (some .long) :: tw) ({ frames := 1, cells := 0, slots := 0, locals := 25 } : Room) (rdP D [.ref oM, .int a1, .int a2] (wdM cJ cI oM oM1 oM2 oM3 oM4 oM5 oM6 oM7 oM8 oM9 oM10 oM11 mw mt mrim mjn mhm mpn mbm mgm mpi mst mam mac mro mbe mhi mmi mgr mtr mle) [(cI, .int), (cJ, .long)]) (vp_Sl (fun q => q = r)) 0 0 (fun _ => False) := by
  refine Met.ofW (cc := cX8_boxOf) (maxL := 6) (ret := (some .long)) (by decide) rfl ?_
  intro p e s m args below meth c s₁ B hml hv
  obtain ⟨rfl, hP, hK⟩ := hv
  have hx := B.exec
  have hb := B.bytes
  have hr := B.returns
  have hts : ∀ w ∈ tw, w.before _ s = true := fun w h => atoms_spec (ws := .code yX8_boxOf cX8_boxOf 6 (some .long) :: tw) B.pre w (List.mem_cons_of_mem _ h)
  have hown : s.vm.findClass RX8 = some m.cls := findClass_of_methodNamed B.named
  have hlocks := B.notSynchronized
  have hl := lv_entry ([.ref oM, .int a1, .int a2]) (n := 6) (Nat.le_of_ble_eq_true rfl)
  rw [lg_entry_eq]
  generalize (lg_sl ([.ref oM, .int a1, .int a2]) ++ List.replicate (6 - (lg_sl ([.ref oM, .int a1, .int a2])).length) Slot.unset).toArray = ls at hl ⊢
  refine bX8_boxOf hx hb hml hown hts hK hP ⟨Nat.le_of_ble_eq_true rfl, Nat.le_of_ble_eq_true rfl, Nat.zero_le _, Nat.zero_le _⟩ hm ls hl (fun pc ls hd => ?_)
  exact W.lret hx hb hr (fun t ht hW => ⟨r, rfl, rfl, ht⟩) (fun q h => by cases h) hd
set_option maxHeartbeats 4000000 in
set_option maxRecDepth 100000 in
theorem kX8_boxOf {own : String} {cc : ByteArray} {nL idx pc : Nat} {ls : Array Slot} {rest : List Value} {n : Nat} {a1 : Int32} {a2 : Int32} {r : Int64} (fx : CallFix p m c cc nL s args tw own) (hq : Cond.methodLink own idx yX8_boxOf ∈ tw) (hP : va_P D vwCl (wdM cJ cI oM oM1 oM2 oM3 oM4 oM5 oM6 oM7 oM8 oM9 oM10 oM11 mw mt mrim mjn mhm mpn mbm mgm mpi mst mam mac mro mbe mhi mmi mgr mtr mle) H) (hK : va_K D vwCl [(cI, .int), (cJ, .long)] s) (hm : mX8_boxOf n mw a1 a2 = some r) (hsz : ls.size = nL) (hR : 2 ≤ R.frames ∧ 50 ≤ R.locals ∧ cells ≤ R.cells ∧ slots ≤ R.slots) (hst : (rest.map fun v => v.category).sum ≤ 8) (hd : decode cc pc = .ok (.invokevirtual idx, 3)) (kk : W p l e R s m args below meth c H locs cells slots Q (F0 m (pc + 3) ls (.long r :: rest))) : W p l e R s m args below meth c H locs cells slots Q (F0 m pc ls (.int a2 :: .int a1 :: .ref oM :: rest)) := by
  exact vp_callSl (va_Run.run (va_runV (As := [.int a1, .int a2]) (rest := rest) fx (tX8_boxOf l hm) (cwV 2 fx.2.2.2.2 (tw_V hq qw_75 qw_76 qw_53 qw_77) rfl rfl rfl (by decide +kernel) ⟨hR.1, hR.2.1⟩) ⟨rdP_bl, va_recv hK hP (ci := 8) (q0 := 0) rfl rfl, rdP_ok hP hK⟩ rfl rfl hsz rfl (lv_room hst) hd ⟨hR.2.2.1, hR.2.2.2⟩)) (fun r9 hr9 => by first | (rw [hr9]; exact kk) | (rw [hr9.1]; exact kk))
-- X8_stepFrom
def mX8_stepFrom (mw : Int32) (mt : Int32) (a1 : Int32) (a2 : Int32) : Option Int32 :=
  gd (¬ mw = 0) (gd (¬ mw = 0) ((if (mX8_in (((((jrem a1 mw) + (jrem a2 (3 : Int32))) - (1 : Int32))).toInt64) (0 : Int64) (((mw - (1 : Int32))).toInt64)) = 0 then (some (-9 : Int32)) else (if (mX8_in (((((a1 / mw) + (a2 / (3 : Int32))) - (1 : Int32))).toInt64) (0 : Int64) (((mt - (1 : Int32))).toInt64)) = 0 then (some (-9 : Int32)) else (some (((((a1 / mw) + (a2 / (3 : Int32))) - (1 : Int32)) * mw) + (((jrem a1 mw) + (jrem a2 (3 : Int32))) - (1 : Int32))))))))
theorem dX8_stepFrom_0 : decode cX8_stepFrom 0 = .ok (.iload_n 1, 1) := by decide +kernel
theorem dX8_stepFrom_1 : decode cX8_stepFrom 1 = .ok (.aload_n 0, 1) := by decide +kernel
theorem dX8_stepFrom_2 : decode cX8_stepFrom 2 = .ok (.getfield 7, 3) := by decide +kernel
theorem dX8_stepFrom_5 : decode cX8_stepFrom 5 = .ok (.irem, 1) := by decide +kernel
theorem dX8_stepFrom_6 : decode cX8_stepFrom 6 = .ok (.iload_n 2, 1) := by decide +kernel
theorem dX8_stepFrom_7 : decode cX8_stepFrom 7 = .ok (.iconst 3, 1) := by decide +kernel
theorem dX8_stepFrom_8 : decode cX8_stepFrom 8 = .ok (.irem, 1) := by decide +kernel
theorem dX8_stepFrom_9 : decode cX8_stepFrom 9 = .ok (.iadd, 1) := by decide +kernel
theorem dX8_stepFrom_10 : decode cX8_stepFrom 10 = .ok (.iconst 1, 1) := by decide +kernel
theorem dX8_stepFrom_11 : decode cX8_stepFrom 11 = .ok (.isub, 1) := by decide +kernel
theorem dX8_stepFrom_12 : decode cX8_stepFrom 12 = .ok (.istore_n 3, 1) := by decide +kernel
theorem dX8_stepFrom_13 : decode cX8_stepFrom 13 = .ok (.iload_n 1, 1) := by decide +kernel
theorem dX8_stepFrom_14 : decode cX8_stepFrom 14 = .ok (.aload_n 0, 1) := by decide +kernel
theorem dX8_stepFrom_15 : decode cX8_stepFrom 15 = .ok (.getfield 7, 3) := by decide +kernel
theorem dX8_stepFrom_18 : decode cX8_stepFrom 18 = .ok (.idiv, 1) := by decide +kernel
theorem dX8_stepFrom_19 : decode cX8_stepFrom 19 = .ok (.iload_n 2, 1) := by decide +kernel
theorem dX8_stepFrom_20 : decode cX8_stepFrom 20 = .ok (.iconst 3, 1) := by decide +kernel
theorem dX8_stepFrom_21 : decode cX8_stepFrom 21 = .ok (.idiv, 1) := by decide +kernel
theorem dX8_stepFrom_22 : decode cX8_stepFrom 22 = .ok (.iadd, 1) := by decide +kernel
theorem dX8_stepFrom_23 : decode cX8_stepFrom 23 = .ok (.iconst 1, 1) := by decide +kernel
theorem dX8_stepFrom_24 : decode cX8_stepFrom 24 = .ok (.isub, 1) := by decide +kernel
theorem dX8_stepFrom_25 : decode cX8_stepFrom 25 = .ok (.istore 4, 2) := by decide +kernel
theorem dX8_stepFrom_27 : decode cX8_stepFrom 27 = .ok (.iload_n 3, 1) := by decide +kernel
theorem dX8_stepFrom_28 : decode cX8_stepFrom 28 = .ok (.i2l, 1) := by decide +kernel
theorem dX8_stepFrom_29 : decode cX8_stepFrom 29 = .ok (.lconst 0, 1) := by decide +kernel
theorem dX8_stepFrom_30 : decode cX8_stepFrom 30 = .ok (.aload_n 0, 1) := by decide +kernel
theorem dX8_stepFrom_31 : decode cX8_stepFrom 31 = .ok (.getfield 7, 3) := by decide +kernel
theorem dX8_stepFrom_34 : decode cX8_stepFrom 34 = .ok (.iconst 1, 1) := by decide +kernel
theorem dX8_stepFrom_35 : decode cX8_stepFrom 35 = .ok (.isub, 1) := by decide +kernel
theorem dX8_stepFrom_36 : decode cX8_stepFrom 36 = .ok (.i2l, 1) := by decide +kernel
theorem dX8_stepFrom_37 : decode cX8_stepFrom 37 = .ok (.invokestatic 63, 3) := by decide +kernel
theorem dX8_stepFrom_40 : decode cX8_stepFrom 40 = .ok (.ifCond .eq 32, 3) := by decide +kernel
theorem dX8_stepFrom_43 : decode cX8_stepFrom 43 = .ok (.iload 4, 2) := by decide +kernel
theorem dX8_stepFrom_45 : decode cX8_stepFrom 45 = .ok (.i2l, 1) := by decide +kernel
theorem dX8_stepFrom_46 : decode cX8_stepFrom 46 = .ok (.lconst 0, 1) := by decide +kernel
theorem dX8_stepFrom_47 : decode cX8_stepFrom 47 = .ok (.aload_n 0, 1) := by decide +kernel
theorem dX8_stepFrom_48 : decode cX8_stepFrom 48 = .ok (.getfield 13, 3) := by decide +kernel
theorem dX8_stepFrom_51 : decode cX8_stepFrom 51 = .ok (.iconst 1, 1) := by decide +kernel
theorem dX8_stepFrom_52 : decode cX8_stepFrom 52 = .ok (.isub, 1) := by decide +kernel
theorem dX8_stepFrom_53 : decode cX8_stepFrom 53 = .ok (.i2l, 1) := by decide +kernel
theorem dX8_stepFrom_54 : decode cX8_stepFrom 54 = .ok (.invokestatic 63, 3) := by decide +kernel
theorem dX8_stepFrom_57 : decode cX8_stepFrom 57 = .ok (.ifCond .eq 15, 3) := by decide +kernel
theorem dX8_stepFrom_60 : decode cX8_stepFrom 60 = .ok (.iload 4, 2) := by decide +kernel
theorem dX8_stepFrom_62 : decode cX8_stepFrom 62 = .ok (.aload_n 0, 1) := by decide +kernel
theorem dX8_stepFrom_63 : decode cX8_stepFrom 63 = .ok (.getfield 7, 3) := by decide +kernel
theorem dX8_stepFrom_66 : decode cX8_stepFrom 66 = .ok (.imul, 1) := by decide +kernel
theorem dX8_stepFrom_67 : decode cX8_stepFrom 67 = .ok (.iload_n 3, 1) := by decide +kernel
theorem dX8_stepFrom_68 : decode cX8_stepFrom 68 = .ok (.iadd, 1) := by decide +kernel
theorem dX8_stepFrom_69 : decode cX8_stepFrom 69 = .ok (.goto 5, 3) := by decide +kernel
theorem dX8_stepFrom_72 : decode cX8_stepFrom 72 = .ok (.bipush (-9), 2) := by decide +kernel
theorem dX8_stepFrom_74 : decode cX8_stepFrom 74 = .ok (.ireturn, 1) := by decide +kernel
set_option maxHeartbeats 4000000 in
set_option maxRecDepth 100000 in
theorem bX8_stepFrom {a1 : Int32} {a2 : Int32} {r : Int32} (hx : p.tables.exec = Jvm.exec) (hb : c.code = cX8_stepFrom) (hml : c.maxLocals = 5) (hown : s.vm.findClass RX8 = some m.cls) (hts : ∀ w ∈ tw, w.before args s = true) (hK : va_K D vwCl [(cI, .int), (cJ, .long)] s) (hP : va_P D vwCl (wdM cJ cI oM oM1 oM2 oM3 oM4 oM5 oM6 oM7 oM8 oM9 oM10 oM11 mw mt mrim mjn mhm mpn mbm mgm mpi mst mam mac mro mbe mhi mmi mgr mtr mle) H) (hR : 1 ≤ R.frames ∧ 25 ≤ R.locals ∧ cells ≤ R.cells ∧ slots ≤ R.slots) (hm : mX8_stepFrom mw mt a1 a2 = some r) (ls : Array Slot) (hl : lv_has ls 5 [(0, .ref oM), (1, .int a1), (2, .int a2)]) (K : ∀ (pc : Nat) (ls : Array Slot), decode cX8_stepFrom pc = .ok (.ireturn, 1) → W p l e R s m args below meth c H locs cells slots Q (F0 m pc ls [.int r])) : W p l e R s m args below meth c H locs cells slots Q (F0 m 0 ls []) := by
  unfold mX8_stepFrom at hm
  refine lv_iload_n hx hb dX8_stepFrom_0 rfl (lv_at hl 1 rfl) ?_
  refine lv_aload_n hx hb dX8_stepFrom_1 rfl (lv_at hl 0 rfl) ?_
  refine va_get (D := D) (ci := 8) (v := .int mw) (C := RX8) (T := TX8) (N := 19) hx hb hts tnX8 hown hK hP 0 rfl rfl 0 (by decide) (hts _ qw_55) (fun _ h9 => h9) rfl dX8_stepFrom_2 ?_
  obtain ⟨g1, hm⟩ := gd_out hm
  refine lv_irem hx hb dX8_stepFrom_5 g1 ?_
  refine lv_iload_n hx hb dX8_stepFrom_6 rfl (lv_at hl 2 rfl) ?_
  refine lv_iconst (v := (3 : Int32)) hx hb dX8_stepFrom_7 (by decide) ?_
  refine lv_irem hx hb dX8_stepFrom_8 (by decide) ?_
  refine lv_iadd hx hb dX8_stepFrom_9 ?_
  refine lv_iconst (v := (1 : Int32)) hx hb dX8_stepFrom_10 (by decide) ?_
  refine lv_isub hx hb dX8_stepFrom_11 ?_
  refine lv_istore_n (lv' := [(3, .int (((jrem a1 mw) + (jrem a2 (3 : Int32))) - (1 : Int32))), (0, .ref oM), (1, .int a1), (2, .int a2)]) hx hb dX8_stepFrom_12 rfl hl (by decide) rfl (fun ls hl => ?_)
  refine lv_iload_n hx hb dX8_stepFrom_13 rfl (lv_at hl 2 rfl) ?_
  refine lv_aload_n hx hb dX8_stepFrom_14 rfl (lv_at hl 1 rfl) ?_
  refine va_get (D := D) (ci := 8) (v := .int mw) (C := RX8) (T := TX8) (N := 19) hx hb hts tnX8 hown hK hP 0 rfl rfl 0 (by decide) (hts _ qw_55) (fun _ h9 => h9) rfl dX8_stepFrom_15 ?_
  obtain ⟨g2, hm⟩ := gd_out hm
  refine lv_idiv hx hb dX8_stepFrom_18 g2 ?_
  refine lv_iload_n hx hb dX8_stepFrom_19 rfl (lv_at hl 3 rfl) ?_
  refine lv_iconst (v := (3 : Int32)) hx hb dX8_stepFrom_20 (by decide) ?_
  refine lv_idiv hx hb dX8_stepFrom_21 (by decide) ?_
  refine lv_iadd hx hb dX8_stepFrom_22 ?_
  refine lv_iconst (v := (1 : Int32)) hx hb dX8_stepFrom_23 (by decide) ?_
  refine lv_isub hx hb dX8_stepFrom_24 ?_
  refine lv_istore (lv' := [(4, .int (((a1 / mw) + (a2 / (3 : Int32))) - (1 : Int32))), (3, .int (((jrem a1 mw) + (jrem a2 (3 : Int32))) - (1 : Int32))), (0, .ref oM), (1, .int a1), (2, .int a2)]) hx hb dX8_stepFrom_25 hl (by decide) rfl (fun ls hl => ?_)
  refine lv_iload_n hx hb dX8_stepFrom_27 rfl (lv_at hl 1 rfl) ?_
  refine lv_i2l (v := (((((jrem a1 mw) + (jrem a2 (3 : Int32))) - (1 : Int32))).toInt64)) hx hb dX8_stepFrom_28 rfl ?_
  refine lv_lconst (v := (0 : Int64)) hx hb dX8_stepFrom_29 (by decide) ?_
  refine lv_aload_n hx hb dX8_stepFrom_30 rfl (lv_at hl 2 rfl) ?_
  refine va_get (D := D) (ci := 8) (v := .int mw) (C := RX8) (T := TX8) (N := 19) hx hb hts tnX8 hown hK hP 0 rfl rfl 0 (by decide) (hts _ qw_55) (fun _ h9 => h9) rfl dX8_stepFrom_31 ?_
  refine lv_iconst (v := (1 : Int32)) hx hb dX8_stepFrom_34 (by decide) ?_
  refine lv_isub hx hb dX8_stepFrom_35 ?_
  refine lv_i2l (v := (((mw - (1 : Int32))).toInt64)) hx hb dX8_stepFrom_36 rfl ?_
  refine kX8_in ⟨hx, hb, hml, hown, hts⟩ qw_65 hl.1 ⟨Nat.le_trans (by decide) hR.1, Nat.le_trans (by decide) hR.2.1, hR.2.2⟩ (Nat.le_of_ble_eq_true rfl) dX8_stepFrom_37 ?_
  refine lv_if_eq (tgt := 72) hx hb dX8_stepFrom_40 (by decide) (fun c4 => ?_) (fun c4 => ?_)
  · rw [if_pos c4] at hm
    refine lv_bipush (v := (-9 : Int32)) hx hb dX8_stepFrom_72 (by decide) ?_
    have hm := Option.some.inj hm
    subst hm
    exact K 74 ls dX8_stepFrom_74
  · rw [if_neg c4] at hm
    refine lv_iload hx hb dX8_stepFrom_43 (lv_at hl 0 rfl) ?_
    refine lv_i2l (v := (((((a1 / mw) + (a2 / (3 : Int32))) - (1 : Int32))).toInt64)) hx hb dX8_stepFrom_45 rfl ?_
    refine lv_lconst (v := (0 : Int64)) hx hb dX8_stepFrom_46 (by decide) ?_
    refine lv_aload_n hx hb dX8_stepFrom_47 rfl (lv_at hl 2 rfl) ?_
    refine va_get (D := D) (ci := 8) (v := .int mt) (C := RX8) (T := TX8) (N := 19) hx hb hts tnX8 hown hK hP 0 rfl rfl 1 (by decide) (hts _ qw_56) (fun _ h9 => h9) rfl dX8_stepFrom_48 ?_
    refine lv_iconst (v := (1 : Int32)) hx hb dX8_stepFrom_51 (by decide) ?_
    refine lv_isub hx hb dX8_stepFrom_52 ?_
    refine lv_i2l (v := (((mt - (1 : Int32))).toInt64)) hx hb dX8_stepFrom_53 rfl ?_
    refine kX8_in ⟨hx, hb, hml, hown, hts⟩ qw_65 hl.1 ⟨Nat.le_trans (by decide) hR.1, Nat.le_trans (by decide) hR.2.1, hR.2.2⟩ (Nat.le_of_ble_eq_true rfl) dX8_stepFrom_54 ?_
    refine lv_if_eq (tgt := 72) hx hb dX8_stepFrom_57 (by decide) (fun c6 => ?_) (fun c6 => ?_)
    · rw [if_pos c6] at hm
      refine lv_bipush (v := (-9 : Int32)) hx hb dX8_stepFrom_72 (by decide) ?_
      have hm := Option.some.inj hm
      subst hm
      exact K 74 ls dX8_stepFrom_74
    · rw [if_neg c6] at hm
      refine lv_iload hx hb dX8_stepFrom_60 (lv_at hl 0 rfl) ?_
      refine lv_aload_n hx hb dX8_stepFrom_62 rfl (lv_at hl 2 rfl) ?_
      refine va_get (D := D) (ci := 8) (v := .int mw) (C := RX8) (T := TX8) (N := 19) hx hb hts tnX8 hown hK hP 0 rfl rfl 0 (by decide) (hts _ qw_55) (fun _ h9 => h9) rfl dX8_stepFrom_63 ?_
      refine lv_imul hx hb dX8_stepFrom_66 ?_
      refine lv_iload_n hx hb dX8_stepFrom_67 rfl (lv_at hl 1 rfl) ?_
      refine lv_iadd hx hb dX8_stepFrom_68 ?_
      refine lv_goto (tgt := 74) hx hb dX8_stepFrom_69 (by decide) ?_
      have hm := Option.some.inj hm
      subst hm
      exact K 74 ls dX8_stepFrom_74
set_option maxHeartbeats 4000000 in
set_option maxRecDepth 100000 in
theorem tX8_stepFrom (l : Launch) {D : va_G} {a1 : Int32} {a2 : Int32} {r : Int32} (hm : mX8_stepFrom mw mt a1 a2 = some r) : Met l yX8_stepFrom (.code yX8_stepFrom cX8_stepFrom 5 (some .int) :: tw) ({ frames := 1, cells := 0, slots := 0, locals := 25 } : Room) (rdP D [.ref oM, .int a1, .int a2] (wdM cJ cI oM oM1 oM2 oM3 oM4 oM5 oM6 oM7 oM8 oM9 oM10 oM11 mw mt mrim mjn mhm mpn mbm mgm mpi mst mam mac mro mbe mhi mmi mgr mtr mle) [(cI, .int), (cJ, .long)]) (vp_Si (fun q => q = r)) 0 0 (fun _ => False) := by
  refine Met.ofW (cc := cX8_stepFrom) (maxL := 5) (ret := (some .int)) (by decide) rfl ?_
  intro p e s m args below meth c s₁ B hml hv
  obtain ⟨rfl, hP, hK⟩ := hv
  have hx := B.exec
  have hb := B.bytes
  have hr := B.returns
  have hts : ∀ w ∈ tw, w.before _ s = true := fun w h => atoms_spec (ws := .code yX8_stepFrom cX8_stepFrom 5 (some .int) :: tw) B.pre w (List.mem_cons_of_mem _ h)
  have hown : s.vm.findClass RX8 = some m.cls := findClass_of_methodNamed B.named
  have hlocks := B.notSynchronized
  have hl := lv_entry ([.ref oM, .int a1, .int a2]) (n := 5) (Nat.le_of_ble_eq_true rfl)
  rw [lg_entry_eq]
  generalize (lg_sl ([.ref oM, .int a1, .int a2]) ++ List.replicate (5 - (lg_sl ([.ref oM, .int a1, .int a2])).length) Slot.unset).toArray = ls at hl ⊢
  refine bX8_stepFrom hx hb hml hown hts hK hP ⟨Nat.le_of_ble_eq_true rfl, Nat.le_of_ble_eq_true rfl, Nat.zero_le _, Nat.zero_le _⟩ hm ls hl (fun pc ls hd => ?_)
  exact W.iret hx hb hr (fun t ht hW => ⟨r, rfl, rfl, ht⟩) (fun q h => by cases h) hd
set_option maxHeartbeats 4000000 in
set_option maxRecDepth 100000 in
theorem kX8_stepFrom {own : String} {cc : ByteArray} {nL idx pc : Nat} {ls : Array Slot} {rest : List Value} {a1 : Int32} {a2 : Int32} {r : Int32} (fx : CallFix p m c cc nL s args tw own) (hq : Cond.methodLink own idx yX8_stepFrom ∈ tw) (hP : va_P D vwCl (wdM cJ cI oM oM1 oM2 oM3 oM4 oM5 oM6 oM7 oM8 oM9 oM10 oM11 mw mt mrim mjn mhm mpn mbm mgm mpi mst mam mac mro mbe mhi mmi mgr mtr mle) H) (hK : va_K D vwCl [(cI, .int), (cJ, .long)] s) (hm : mX8_stepFrom mw mt a1 a2 = some r) (hsz : ls.size = nL) (hR : 2 ≤ R.frames ∧ 49 ≤ R.locals ∧ cells ≤ R.cells ∧ slots ≤ R.slots) (hst : (rest.map fun v => v.category).sum ≤ 8) (hd : decode cc pc = .ok (.invokevirtual idx, 3)) (kk : W p l e R s m args below meth c H locs cells slots Q (F0 m (pc + 3) ls (.int r :: rest))) : W p l e R s m args below meth c H locs cells slots Q (F0 m pc ls (.int a2 :: .int a1 :: .ref oM :: rest)) := by
  exact vp_callSi (va_Run.run (va_runV (As := [.int a1, .int a2]) (rest := rest) fx (tX8_stepFrom l hm) (cwV 2 fx.2.2.2.2 (tw_V hq qw_78 qw_79 qw_53 qw_80) rfl rfl rfl (by decide +kernel) ⟨hR.1, hR.2.1⟩) ⟨rdP_bl, va_recv hK hP (ci := 8) (q0 := 0) rfl rfl, rdP_ok hP hK⟩ rfl rfl hsz rfl (lv_room hst) hd ⟨hR.2.2.1, hR.2.2.2⟩)) (fun r9 hr9 => by first | (rw [hr9]; exact kk) | (rw [hr9.1]; exact kk))
-- X8_grown
def mX8_grown_L18 (n : Nat) (v1 : Int64) (v6 : Int32) (v3 : Int32) (mw : Int32) (mt : Int32) : Nat → (Int64) → (Int32) → Option ((Int64))
  | 0, _, _ => none
  | k + 1, v4, v7 => (if (9 : Int32) ≤ v7 then some (v4) else (if (mX8_has v1 v6) = 0 then some (v4) else jb (if ((v3 >>> (v7 &&& 31)) &&& (1 : Int32)) = (1 : Int32) then jb (mX8_stepFrom mw mt v6 v7) (fun (r12 : Int32) => (some (r12))) else (some ((-9 : Int32)))) (fun (j8 : Int32) => jl (if j8 = (-9 : Int32) then (0 : Int64) else (jlshl (1 : Int64) j8)) (fun j14 => mX8_grown_L18 n v1 v6 v3 mw mt k (v4 ||| j14) (v7 + (1 : Int32))))))
def mX8_grown_L6 (n : Nat) (mw : Int32) (mt : Int32) (v1 : Int64) (v3 : Int32) : Nat → (Int64) → (Int32) → Option ((Int64))
  | 0, _, _ => none
  | k + 1, v4, v6 => (if (mX8_cells mw mt) ≤ v6 then some (v4) else jb (mX8_grown_L18 n v1 v6 v3 mw mt n v4 (0 : Int32)) (fun (y18 : Int64) => mX8_grown_L6 n mw mt v1 v3 k y18 (v6 + (1 : Int32))))
def mX8_grown (n : Nat) (mw : Int32) (mt : Int32) (a1 : Int64) (a3 : Int32) : Option Int64 :=
  jb (mX8_grown_L6 n mw mt a1 a3 n (0 : Int64) (0 : Int32)) (fun (y20 : Int64) => (some y20))
theorem dX8_grown_0 : decode cX8_grown 0 = .ok (.lconst 0, 1) := by decide +kernel
theorem dX8_grown_1 : decode cX8_grown 1 = .ok (.lstore 4, 2) := by decide +kernel
theorem dX8_grown_3 : decode cX8_grown 3 = .ok (.iconst 0, 1) := by decide +kernel
theorem dX8_grown_4 : decode cX8_grown 4 = .ok (.istore 6, 2) := by decide +kernel
theorem dX8_grown_6 : decode cX8_grown 6 = .ok (.iload 6, 2) := by decide +kernel
theorem dX8_grown_8 : decode cX8_grown 8 = .ok (.aload_n 0, 1) := by decide +kernel
theorem dX8_grown_9 : decode cX8_grown 9 = .ok (.invokevirtual 57, 3) := by decide +kernel
theorem dX8_grown_12 : decode cX8_grown 12 = .ok (.if_icmp .ge 79, 3) := by decide +kernel
theorem dX8_grown_15 : decode cX8_grown 15 = .ok (.iconst 0, 1) := by decide +kernel
theorem dX8_grown_16 : decode cX8_grown 16 = .ok (.istore 7, 2) := by decide +kernel
theorem dX8_grown_18 : decode cX8_grown 18 = .ok (.iload 7, 2) := by decide +kernel
theorem dX8_grown_20 : decode cX8_grown 20 = .ok (.bipush 9, 2) := by decide +kernel
theorem dX8_grown_22 : decode cX8_grown 22 = .ok (.if_icmp .ge 63, 3) := by decide +kernel
theorem dX8_grown_25 : decode cX8_grown 25 = .ok (.lload_n 1, 1) := by decide +kernel
theorem dX8_grown_26 : decode cX8_grown 26 = .ok (.iload 6, 2) := by decide +kernel
theorem dX8_grown_28 : decode cX8_grown 28 = .ok (.invokestatic 78, 3) := by decide +kernel
theorem dX8_grown_31 : decode cX8_grown 31 = .ok (.ifCond .eq 54, 3) := by decide +kernel
theorem dX8_grown_34 : decode cX8_grown 34 = .ok (.iload_n 3, 1) := by decide +kernel
theorem dX8_grown_35 : decode cX8_grown 35 = .ok (.iload 7, 2) := by decide +kernel
theorem dX8_grown_37 : decode cX8_grown 37 = .ok (.ishr, 1) := by decide +kernel
theorem dX8_grown_38 : decode cX8_grown 38 = .ok (.iconst 1, 1) := by decide +kernel
theorem dX8_grown_39 : decode cX8_grown 39 = .ok (.iand, 1) := by decide +kernel
theorem dX8_grown_40 : decode cX8_grown 40 = .ok (.iconst 1, 1) := by decide +kernel
theorem dX8_grown_41 : decode cX8_grown 41 = .ok (.if_icmp .ne 14, 3) := by decide +kernel
theorem dX8_grown_44 : decode cX8_grown 44 = .ok (.aload_n 0, 1) := by decide +kernel
theorem dX8_grown_45 : decode cX8_grown 45 = .ok (.iload 6, 2) := by decide +kernel
theorem dX8_grown_47 : decode cX8_grown 47 = .ok (.iload 7, 2) := by decide +kernel
theorem dX8_grown_49 : decode cX8_grown 49 = .ok (.invokevirtual 96, 3) := by decide +kernel
theorem dX8_grown_52 : decode cX8_grown 52 = .ok (.goto 5, 3) := by decide +kernel
theorem dX8_grown_55 : decode cX8_grown 55 = .ok (.bipush (-9), 2) := by decide +kernel
theorem dX8_grown_57 : decode cX8_grown 57 = .ok (.istore 8, 2) := by decide +kernel
theorem dX8_grown_59 : decode cX8_grown 59 = .ok (.lload 4, 2) := by decide +kernel
theorem dX8_grown_61 : decode cX8_grown 61 = .ok (.iload 8, 2) := by decide +kernel
theorem dX8_grown_63 : decode cX8_grown 63 = .ok (.bipush (-9), 2) := by decide +kernel
theorem dX8_grown_65 : decode cX8_grown 65 = .ok (.if_icmp .ne 7, 3) := by decide +kernel
theorem dX8_grown_68 : decode cX8_grown 68 = .ok (.lconst 0, 1) := by decide +kernel
theorem dX8_grown_69 : decode cX8_grown 69 = .ok (.goto 7, 3) := by decide +kernel
theorem dX8_grown_72 : decode cX8_grown 72 = .ok (.lconst 1, 1) := by decide +kernel
theorem dX8_grown_73 : decode cX8_grown 73 = .ok (.iload 8, 2) := by decide +kernel
theorem dX8_grown_75 : decode cX8_grown 75 = .ok (.lshl, 1) := by decide +kernel
theorem dX8_grown_76 : decode cX8_grown 76 = .ok (.lor, 1) := by decide +kernel
theorem dX8_grown_77 : decode cX8_grown 77 = .ok (.lstore 4, 2) := by decide +kernel
theorem dX8_grown_79 : decode cX8_grown 79 = .ok (.iinc 7 1, 3) := by decide +kernel
theorem dX8_grown_82 : decode cX8_grown 82 = .ok (.goto (-64), 3) := by decide +kernel
theorem dX8_grown_85 : decode cX8_grown 85 = .ok (.iinc 6 1, 3) := by decide +kernel
theorem dX8_grown_88 : decode cX8_grown 88 = .ok (.goto (-82), 3) := by decide +kernel
theorem dX8_grown_91 : decode cX8_grown 91 = .ok (.lload 4, 2) := by decide +kernel
theorem dX8_grown_93 : decode cX8_grown 93 = .ok (.lreturn, 1) := by decide +kernel
set_option maxHeartbeats 4000000 in
set_option maxRecDepth 100000 in
theorem wX8_grown_L18 {n : Nat} {v1 : Int64} {v3 : Int32} {v6 : Int32} (hx : p.tables.exec = Jvm.exec) (hb : c.code = cX8_grown) (hml : c.maxLocals = 9) (hown : s.vm.findClass RX8 = some m.cls) (hts : ∀ w ∈ tw, w.before args s = true) (hK : va_K D vwCl [(cI, .int), (cJ, .long)] s) (hP : va_P D vwCl (wdM cJ cI oM oM1 oM2 oM3 oM4 oM5 oM6 oM7 oM8 oM9 oM10 oM11 mw mt mrim mjn mhm mpn mbm mgm mpi mst mam mac mro mbe mhi mmi mgr mtr mle) H) (hR : 2 ≤ R.frames ∧ 49 ≤ R.locals ∧ cells ≤ R.cells ∧ slots ≤ R.slots) : ∀ (k : Nat) (v4 : Int64) (v7 : Int32) (x4 : Int64), mX8_grown_L18 n v1 v6 v3 mw mt k v4 v7 = some (x4) → ∀ ls : Array Slot, lv_has ls 9 [(0, .ref oM), (1, .long v1), (3, .int v3), (4, .long v4), (6, .int v6), (7, .int v7)] → (∀ ls : Array Slot, lv_has ls 9 [(4, .long x4), (0, .ref oM), (1, .long v1), (3, .int v3), (6, .int v6)] → W p l e R s m args below meth c H locs cells slots Q (F0 m 85 ls [])) → W p l e R s m args below meth c H locs cells slots Q (F0 m 18 ls []) := by
  intro k
  induction k with
  | zero => intro v4 v7 x4 hm; rw [mX8_grown_L18] at hm; cases hm
  | succ k ih =>
    intro v4 v7 x4 hm ls hl K0
    rw [mX8_grown_L18] at hm
    refine lv_iload hx hb dX8_grown_18 (lv_at hl 5 rfl) ?_
    refine lv_bipush (v := (9 : Int32)) hx hb dX8_grown_20 (by decide) ?_
    refine lv_icmp_ge (tgt := 85) hx hb dX8_grown_22 (by decide) (fun c5 => ?_) (fun c5 => ?_)
    · rw [if_pos c5] at hm
      have hm := Option.some.inj hm
      have e9 : x4 = v4 := (congrArg (fun q => q) hm).symm
      rw [e9] at K0
      exact K0 ls (lv_sub hl [3, 0, 1, 2, 4] rfl)
    · rw [if_neg c5] at hm
      refine lv_lload_n hx hb dX8_grown_25 rfl (lv_at hl 1 rfl) ?_
      refine lv_iload hx hb dX8_grown_26 (lv_at hl 4 rfl) ?_
      refine kX8_has ⟨hx, hb, hml, hown, hts⟩ qw_81 hl.1 ⟨Nat.le_trans (by decide) hR.1, Nat.le_trans (by decide) hR.2.1, hR.2.2⟩ (Nat.le_of_ble_eq_true rfl) dX8_grown_28 ?_
      refine lv_if_eq (tgt := 85) hx hb dX8_grown_31 (by decide) (fun c7 => ?_) (fun c7 => ?_)
      · rw [if_pos c7] at hm
        have hm := Option.some.inj hm
        have e9 : x4 = v4 := (congrArg (fun q => q) hm).symm
        rw [e9] at K0
        exact K0 ls (lv_sub hl [3, 0, 1, 2, 4] rfl)
      · rw [if_neg c7] at hm
        refine lv_iload_n hx hb dX8_grown_34 rfl (lv_at hl 2 rfl) ?_
        refine lv_iload hx hb dX8_grown_35 (lv_at hl 5 rfl) ?_
        refine lv_ishr hx hb dX8_grown_37 ?_
        refine lv_iconst (v := (1 : Int32)) hx hb dX8_grown_38 (by decide) ?_
        refine lv_iand hx hb dX8_grown_39 ?_
        refine lv_iconst (v := (1 : Int32)) hx hb dX8_grown_40 (by decide) ?_
        obtain ⟨j8, hi9, hm⟩ := jb_out hm
        have key10 : ∀ (ls : Array Slot), lv_has ls 9 [(0, .ref oM), (1, .long v1), (3, .int v3), (4, .long v4), (6, .int v6), (7, .int v7)] → W p l e R s m args below meth c H locs cells slots Q (F0 m 57 ls [.int j8]) := by
          intro ls hl
          refine lv_istore (lv' := [(8, .int j8), (0, .ref oM), (1, .long v1), (3, .int v3), (4, .long v4), (6, .int v6), (7, .int v7)]) hx hb dX8_grown_57 hl (by decide) rfl (fun ls hl => ?_)
          refine lv_lload hx hb dX8_grown_59 (lv_at hl 4 rfl) ?_
          refine lv_iload hx hb dX8_grown_61 (lv_at hl 0 rfl) ?_
          refine lv_bipush (v := (-9 : Int32)) hx hb dX8_grown_63 (by decide) ?_
          obtain ⟨j14, hi15, hm⟩ := jl_out hm
          have key16 : ∀ (ls : Array Slot), lv_has ls 9 [(0, .ref oM), (1, .long v1), (3, .int v3), (6, .int v6), (7, .int v7)] → W p l e R s m args below meth c H locs cells slots Q (F0 m 76 ls [.long j14, .long v4]) := by
            intro ls hl
            refine lv_lor hx hb dX8_grown_76 ?_
            refine lv_lstore (lv' := [(4, .long (v4 ||| j14)), (0, .ref oM), (1, .long v1), (3, .int v3), (6, .int v6), (7, .int v7)]) hx hb dX8_grown_77 hl (by decide) rfl (fun ls hl => ?_)
            refine lv_iinc (v := (v7 + (1 : Int32))) (lv' := [(7, .int (v7 + (1 : Int32))), (4, .long (v4 ||| j14)), (0, .ref oM), (1, .long v1), (3, .int v3), (6, .int v6)]) hx hb dX8_grown_79 hl (k := 5) rfl (by rfl) (by decide) rfl (fun ls hl => ?_)
            refine lv_goto (tgt := 18) hx hb dX8_grown_82 (by decide) ?_
            exact ih _ _ _ hm ls (lv_sub hl [2, 3, 4, 1, 5, 0] rfl) K0
          refine lv_icmp_ne (tgt := 72) hx hb dX8_grown_65 (by decide) (fun c17 => ?_) (fun c17 => ?_)
          · rw [if_neg c17] at hi15
            refine lv_lconst (v := (1 : Int64)) hx hb dX8_grown_72 (by decide) ?_
            refine lv_iload hx hb dX8_grown_73 (lv_at hl 0 rfl) ?_
            refine lv_lshl (v := (jlshl (1 : Int64) j8)) hx hb dX8_grown_75 rfl ?_
            rw [hi15] at key16
            exact key16 ls (lv_sub hl [1, 2, 3, 5, 6] rfl)
          · rw [if_pos c17] at hi15
            refine lv_lconst (v := (0 : Int64)) hx hb dX8_grown_68 (by decide) ?_
            refine lv_goto (tgt := 76) hx hb dX8_grown_69 (by decide) ?_
            rw [hi15] at key16
            exact key16 ls (lv_sub hl [1, 2, 3, 5, 6] rfl)
        refine lv_icmp_ne (tgt := 55) hx hb dX8_grown_41 (by decide) (fun c11 => ?_) (fun c11 => ?_)
        · rw [if_neg c11] at hi9
          refine lv_bipush (v := (-9 : Int32)) hx hb dX8_grown_55 (by decide) ?_
          have hi9 := Option.some.inj hi9
          have e9 : j8 = (-9 : Int32) := (congrArg (fun q => q) hi9).symm
          rw [e9] at key10
          exact key10 ls (lv_sub hl [0, 1, 2, 3, 4, 5] rfl)
        · rw [if_pos c11] at hi9
          refine lv_aload_n hx hb dX8_grown_44 rfl (lv_at hl 0 rfl) ?_
          refine lv_iload hx hb dX8_grown_45 (lv_at hl 4 rfl) ?_
          refine lv_iload hx hb dX8_grown_47 (lv_at hl 5 rfl) ?_
          obtain ⟨r12, h13, hi9⟩ := jb_out hi9
          refine kX8_stepFrom ⟨hx, hb, hml, hown, hts⟩ qw_82 hP hK h13 hl.1 ⟨Nat.le_trans (by decide) hR.1, Nat.le_trans (by decide) hR.2.1, hR.2.2⟩ (Nat.le_of_ble_eq_true rfl) dX8_grown_49 ?_
          refine lv_goto (tgt := 57) hx hb dX8_grown_52 (by decide) ?_
          have hi9 := Option.some.inj hi9
          have e9 : j8 = r12 := (congrArg (fun q => q) hi9).symm
          rw [e9] at key10
          exact key10 ls (lv_sub hl [0, 1, 2, 3, 4, 5] rfl)
set_option maxHeartbeats 4000000 in
set_option maxRecDepth 100000 in
theorem wX8_grown_L6 {n : Nat} {v1 : Int64} {v3 : Int32} (hx : p.tables.exec = Jvm.exec) (hb : c.code = cX8_grown) (hml : c.maxLocals = 9) (hown : s.vm.findClass RX8 = some m.cls) (hts : ∀ w ∈ tw, w.before args s = true) (hK : va_K D vwCl [(cI, .int), (cJ, .long)] s) (hP : va_P D vwCl (wdM cJ cI oM oM1 oM2 oM3 oM4 oM5 oM6 oM7 oM8 oM9 oM10 oM11 mw mt mrim mjn mhm mpn mbm mgm mpi mst mam mac mro mbe mhi mmi mgr mtr mle) H) (hR : 2 ≤ R.frames ∧ 49 ≤ R.locals ∧ cells ≤ R.cells ∧ slots ≤ R.slots) : ∀ (k : Nat) (v4 : Int64) (v6 : Int32) (x4 : Int64), mX8_grown_L6 n mw mt v1 v3 k v4 v6 = some (x4) → ∀ ls : Array Slot, lv_has ls 9 [(0, .ref oM), (1, .long v1), (3, .int v3), (4, .long v4), (6, .int v6)] → (∀ ls : Array Slot, lv_has ls 9 [(4, .long x4)] → W p l e R s m args below meth c H locs cells slots Q (F0 m 91 ls [])) → W p l e R s m args below meth c H locs cells slots Q (F0 m 6 ls []) := by
  intro k
  induction k with
  | zero => intro v4 v6 x4 hm; rw [mX8_grown_L6] at hm; cases hm
  | succ k ih =>
    intro v4 v6 x4 hm ls hl K0
    rw [mX8_grown_L6] at hm
    refine lv_iload hx hb dX8_grown_6 (lv_at hl 4 rfl) ?_
    refine lv_aload_n hx hb dX8_grown_8 rfl (lv_at hl 0 rfl) ?_
    refine kX8_cells ⟨hx, hb, hml, hown, hts⟩ qw_60 hP hK hl.1 ⟨Nat.le_trans (by decide) hR.1, Nat.le_trans (by decide) hR.2.1, hR.2.2⟩ (Nat.le_of_ble_eq_true rfl) dX8_grown_9 ?_
    refine lv_icmp_ge (tgt := 91) hx hb dX8_grown_12 (by decide) (fun c3 => ?_) (fun c3 => ?_)
    · rw [if_pos c3] at hm
      have hm := Option.some.inj hm
      have e9 : x4 = v4 := (congrArg (fun q => q) hm).symm
      rw [e9] at K0
      exact K0 ls (lv_sub hl [3] rfl)
    · rw [if_neg c3] at hm
      refine lv_iconst (v := (0 : Int32)) hx hb dX8_grown_15 (by decide) ?_
      refine lv_istore (lv' := [(7, .int (0 : Int32)), (0, .ref oM), (1, .long v1), (3, .int v3), (4, .long v4), (6, .int v6)]) hx hb dX8_grown_16 hl (by decide) rfl (fun ls hl => ?_)
      obtain ⟨y18, h19, hm⟩ := jb_out hm
      refine wX8_grown_L18 hx hb hml hown hts hK hP hR n _ _ _  h19 ls (lv_sub hl [1, 2, 3, 4, 5, 0] rfl) (fun ls hl => ?_)
      refine lv_iinc (v := (v6 + (1 : Int32))) (lv' := [(6, .int (v6 + (1 : Int32))), (4, .long y18), (0, .ref oM), (1, .long v1), (3, .int v3)]) hx hb dX8_grown_85 hl (k := 4) rfl (by rfl) (by decide) rfl (fun ls hl => ?_)
      refine lv_goto (tgt := 6) hx hb dX8_grown_88 (by decide) ?_
      exact ih _ _ _ hm ls (lv_sub hl [2, 3, 4, 1, 0] rfl) K0
set_option maxHeartbeats 4000000 in
set_option maxRecDepth 100000 in
theorem bX8_grown {n : Nat} {a1 : Int64} {a3 : Int32} {r : Int64} (hx : p.tables.exec = Jvm.exec) (hb : c.code = cX8_grown) (hml : c.maxLocals = 9) (hown : s.vm.findClass RX8 = some m.cls) (hts : ∀ w ∈ tw, w.before args s = true) (hK : va_K D vwCl [(cI, .int), (cJ, .long)] s) (hP : va_P D vwCl (wdM cJ cI oM oM1 oM2 oM3 oM4 oM5 oM6 oM7 oM8 oM9 oM10 oM11 mw mt mrim mjn mhm mpn mbm mgm mpi mst mam mac mro mbe mhi mmi mgr mtr mle) H) (hR : 2 ≤ R.frames ∧ 49 ≤ R.locals ∧ cells ≤ R.cells ∧ slots ≤ R.slots) (hm : mX8_grown n mw mt a1 a3 = some r) (ls : Array Slot) (hl : lv_has ls 9 [(0, .ref oM), (1, .long a1), (3, .int a3)]) (K : ∀ (pc : Nat) (ls : Array Slot), decode cX8_grown pc = .ok (.lreturn, 1) → W p l e R s m args below meth c H locs cells slots Q (F0 m pc ls [.long r])) : W p l e R s m args below meth c H locs cells slots Q (F0 m 0 ls []) := by
  unfold mX8_grown at hm
  refine lv_lconst (v := (0 : Int64)) hx hb dX8_grown_0 (by decide) ?_
  refine lv_lstore (lv' := [(4, .long (0 : Int64)), (0, .ref oM), (1, .long a1), (3, .int a3)]) hx hb dX8_grown_1 hl (by decide) rfl (fun ls hl => ?_)
  refine lv_iconst (v := (0 : Int32)) hx hb dX8_grown_3 (by decide) ?_
  refine lv_istore (lv' := [(6, .int (0 : Int32)), (4, .long (0 : Int64)), (0, .ref oM), (1, .long a1), (3, .int a3)]) hx hb dX8_grown_4 hl (by decide) rfl (fun ls hl => ?_)
  obtain ⟨y20, h21, hm⟩ := jb_out hm
  refine wX8_grown_L6 hx hb hml hown hts hK hP hR n _ _ _  h21 ls (lv_sub hl [2, 3, 4, 1, 0] rfl) (fun ls hl => ?_)
  refine lv_lload hx hb dX8_grown_91 (lv_at hl 0 rfl) ?_
  have hm := Option.some.inj hm
  subst hm
  exact K 93 ls dX8_grown_93
set_option maxHeartbeats 4000000 in
set_option maxRecDepth 100000 in
theorem tX8_grown (l : Launch) {D : va_G} {n : Nat} {a1 : Int64} {a3 : Int32} {r : Int64} (hm : mX8_grown n mw mt a1 a3 = some r) : Met l yX8_grown (.code yX8_grown cX8_grown 9 (some .long) :: tw) ({ frames := 2, cells := 0, slots := 0, locals := 49 } : Room) (rdP D [.ref oM, .long a1, .int a3] (wdM cJ cI oM oM1 oM2 oM3 oM4 oM5 oM6 oM7 oM8 oM9 oM10 oM11 mw mt mrim mjn mhm mpn mbm mgm mpi mst mam mac mro mbe mhi mmi mgr mtr mle) [(cI, .int), (cJ, .long)]) (vp_Sl (fun q => q = r)) 0 0 (fun _ => False) := by
  refine Met.ofW (cc := cX8_grown) (maxL := 9) (ret := (some .long)) (by decide) rfl ?_
  intro p e s m args below meth c s₁ B hml hv
  obtain ⟨rfl, hP, hK⟩ := hv
  have hx := B.exec
  have hb := B.bytes
  have hr := B.returns
  have hts : ∀ w ∈ tw, w.before _ s = true := fun w h => atoms_spec (ws := .code yX8_grown cX8_grown 9 (some .long) :: tw) B.pre w (List.mem_cons_of_mem _ h)
  have hown : s.vm.findClass RX8 = some m.cls := findClass_of_methodNamed B.named
  have hlocks := B.notSynchronized
  have hl := lv_entry ([.ref oM, .long a1, .int a3]) (n := 9) (Nat.le_of_ble_eq_true rfl)
  rw [lg_entry_eq]
  generalize (lg_sl ([.ref oM, .long a1, .int a3]) ++ List.replicate (9 - (lg_sl ([.ref oM, .long a1, .int a3])).length) Slot.unset).toArray = ls at hl ⊢
  refine bX8_grown hx hb hml hown hts hK hP ⟨Nat.le_of_ble_eq_true rfl, Nat.le_of_ble_eq_true rfl, Nat.zero_le _, Nat.zero_le _⟩ hm ls hl (fun pc ls hd => ?_)
  exact W.lret hx hb hr (fun t ht hW => ⟨r, rfl, rfl, ht⟩) (fun q h => by cases h) hd
set_option maxHeartbeats 4000000 in
set_option maxRecDepth 100000 in
theorem kX8_grown {own : String} {cc : ByteArray} {nL idx pc : Nat} {ls : Array Slot} {rest : List Value} {n : Nat} {a1 : Int64} {a3 : Int32} {r : Int64} (fx : CallFix p m c cc nL s args tw own) (hq : Cond.methodLink own idx yX8_grown ∈ tw) (hP : va_P D vwCl (wdM cJ cI oM oM1 oM2 oM3 oM4 oM5 oM6 oM7 oM8 oM9 oM10 oM11 mw mt mrim mjn mhm mpn mbm mgm mpi mst mam mac mro mbe mhi mmi mgr mtr mle) H) (hK : va_K D vwCl [(cI, .int), (cJ, .long)] s) (hm : mX8_grown n mw mt a1 a3 = some r) (hsz : ls.size = nL) (hR : 3 ≤ R.frames ∧ 77 ≤ R.locals ∧ cells ≤ R.cells ∧ slots ≤ R.slots) (hst : (rest.map fun v => v.category).sum ≤ 8) (hd : decode cc pc = .ok (.invokevirtual idx, 3)) (kk : W p l e R s m args below meth c H locs cells slots Q (F0 m (pc + 3) ls (.long r :: rest))) : W p l e R s m args below meth c H locs cells slots Q (F0 m pc ls (.int a3 :: .long a1 :: .ref oM :: rest)) := by
  exact vp_callSl (va_Run.run (va_runV (As := [.long a1, .int a3]) (rest := rest) fx (tX8_grown l hm) (cwV 2 fx.2.2.2.2 (tw_V hq qw_83 qw_84 qw_53 qw_85) rfl rfl rfl (by decide +kernel) ⟨hR.1, hR.2.1⟩) ⟨rdP_bl, va_recv hK hP (ci := 8) (q0 := 0) rfl rfl, rdP_ok hP hK⟩ rfl rfl hsz rfl (lv_room hst) hd ⟨hR.2.2.1, hR.2.2.2⟩)) (fun r9 hr9 => by first | (rw [hr9]; exact kk) | (rw [hr9.1]; exact kk))
-- X8_worn
def mX8_worn_L21 (n : Nat) (v3 : Int32) (mw : Int32) (mt : Int32) (v6 : Int32) (mrim : Int32) (v1 : Int64) : Nat → (Int32) → (Int32) → Option ((Int32))
  | 0, _, _ => none
  | k + 1, v7, v8 => (if (9 : Int32) ≤ v8 then some (v7) else (if v7 = 0 then some (v7) else jb (if ((v3 >>> (v8 &&& 31)) &&& (1 : Int32)) = (1 : Int32) then jb (mX8_stepFrom mw mt v6 v8) (fun (r11 : Int32) => jl (if r11 = (-9 : Int32) then (if mrim = (1 : Int32) then (1 : Int32) else (0 : Int32)) else (mX8_has v1 r11)) (fun j13 => (some (j13)))) else (some (v7))) (fun (j7 : Int32) => mX8_worn_L21 n v3 mw mt v6 mrim v1 k j7 (v8 + (1 : Int32)))))
def mX8_worn_L6 (n : Nat) (mw : Int32) (mt : Int32) (v3 : Int32) (mrim : Int32) (v1 : Int64) : Nat → (Int64) → (Int32) → Option ((Int64))
  | 0, _, _ => none
  | k + 1, v4, v6 => (if (mX8_cells mw mt) ≤ v6 then some (v4) else jb (mX8_worn_L21 n v3 mw mt v6 mrim v1 n (1 : Int32) (0 : Int32)) (fun (y19 : Int32) => jl (if y19 = 0 then (0 : Int64) else (jlshl (1 : Int64) v6)) (fun j21 => mX8_worn_L6 n mw mt v3 mrim v1 k (v4 ||| j21) (v6 + (1 : Int32)))))
def mX8_worn (n : Nat) (mw : Int32) (mt : Int32) (mrim : Int32) (a1 : Int64) (a3 : Int32) : Option Int64 :=
  jb (mX8_worn_L6 n mw mt a3 mrim a1 n (0 : Int64) (0 : Int32)) (fun (y25 : Int64) => (some y25))
theorem dX8_worn_0 : decode cX8_worn 0 = .ok (.lconst 0, 1) := by decide +kernel
theorem dX8_worn_1 : decode cX8_worn 1 = .ok (.lstore 4, 2) := by decide +kernel
theorem dX8_worn_3 : decode cX8_worn 3 = .ok (.iconst 0, 1) := by decide +kernel
theorem dX8_worn_4 : decode cX8_worn 4 = .ok (.istore 6, 2) := by decide +kernel
theorem dX8_worn_6 : decode cX8_worn 6 = .ok (.iload 6, 2) := by decide +kernel
theorem dX8_worn_8 : decode cX8_worn 8 = .ok (.aload_n 0, 1) := by decide +kernel
theorem dX8_worn_9 : decode cX8_worn 9 = .ok (.invokevirtual 57, 3) := by decide +kernel
theorem dX8_worn_12 : decode cX8_worn 12 = .ok (.if_icmp .ge 102, 3) := by decide +kernel
theorem dX8_worn_15 : decode cX8_worn 15 = .ok (.iconst 1, 1) := by decide +kernel
theorem dX8_worn_16 : decode cX8_worn 16 = .ok (.istore 7, 2) := by decide +kernel
theorem dX8_worn_18 : decode cX8_worn 18 = .ok (.iconst 0, 1) := by decide +kernel
theorem dX8_worn_19 : decode cX8_worn 19 = .ok (.istore 8, 2) := by decide +kernel
theorem dX8_worn_21 : decode cX8_worn 21 = .ok (.iload 8, 2) := by decide +kernel
theorem dX8_worn_23 : decode cX8_worn 23 = .ok (.bipush 9, 2) := by decide +kernel
theorem dX8_worn_25 : decode cX8_worn 25 = .ok (.if_icmp .ge 65, 3) := by decide +kernel
theorem dX8_worn_28 : decode cX8_worn 28 = .ok (.iload 7, 2) := by decide +kernel
theorem dX8_worn_30 : decode cX8_worn 30 = .ok (.ifCond .eq 60, 3) := by decide +kernel
theorem dX8_worn_33 : decode cX8_worn 33 = .ok (.iload_n 3, 1) := by decide +kernel
theorem dX8_worn_34 : decode cX8_worn 34 = .ok (.iload 8, 2) := by decide +kernel
theorem dX8_worn_36 : decode cX8_worn 36 = .ok (.ishr, 1) := by decide +kernel
theorem dX8_worn_37 : decode cX8_worn 37 = .ok (.iconst 1, 1) := by decide +kernel
theorem dX8_worn_38 : decode cX8_worn 38 = .ok (.iand, 1) := by decide +kernel
theorem dX8_worn_39 : decode cX8_worn 39 = .ok (.iconst 1, 1) := by decide +kernel
theorem dX8_worn_40 : decode cX8_worn 40 = .ok (.if_icmp .ne 44, 3) := by decide +kernel
theorem dX8_worn_43 : decode cX8_worn 43 = .ok (.aload_n 0, 1) := by decide +kernel
theorem dX8_worn_44 : decode cX8_worn 44 = .ok (.iload 6, 2) := by decide +kernel
theorem dX8_worn_46 : decode cX8_worn 46 = .ok (.iload 8, 2) := by decide +kernel
theorem dX8_worn_48 : decode cX8_worn 48 = .ok (.invokevirtual 96, 3) := by decide +kernel
theorem dX8_worn_51 : decode cX8_worn 51 = .ok (.istore 9, 2) := by decide +kernel
theorem dX8_worn_53 : decode cX8_worn 53 = .ok (.iload 9, 2) := by decide +kernel
theorem dX8_worn_55 : decode cX8_worn 55 = .ok (.bipush (-9), 2) := by decide +kernel
theorem dX8_worn_57 : decode cX8_worn 57 = .ok (.if_icmp .ne 19, 3) := by decide +kernel
theorem dX8_worn_60 : decode cX8_worn 60 = .ok (.aload_n 0, 1) := by decide +kernel
theorem dX8_worn_61 : decode cX8_worn 61 = .ok (.getfield 24, 3) := by decide +kernel
theorem dX8_worn_64 : decode cX8_worn 64 = .ok (.iconst 1, 1) := by decide +kernel
theorem dX8_worn_65 : decode cX8_worn 65 = .ok (.if_icmp .ne 7, 3) := by decide +kernel
theorem dX8_worn_68 : decode cX8_worn 68 = .ok (.iconst 1, 1) := by decide +kernel
theorem dX8_worn_69 : decode cX8_worn 69 = .ok (.goto 13, 3) := by decide +kernel
theorem dX8_worn_72 : decode cX8_worn 72 = .ok (.iconst 0, 1) := by decide +kernel
theorem dX8_worn_73 : decode cX8_worn 73 = .ok (.goto 9, 3) := by decide +kernel
theorem dX8_worn_76 : decode cX8_worn 76 = .ok (.lload_n 1, 1) := by decide +kernel
theorem dX8_worn_77 : decode cX8_worn 77 = .ok (.iload 9, 2) := by decide +kernel
theorem dX8_worn_79 : decode cX8_worn 79 = .ok (.invokestatic 78, 3) := by decide +kernel
theorem dX8_worn_82 : decode cX8_worn 82 = .ok (.istore 7, 2) := by decide +kernel
theorem dX8_worn_84 : decode cX8_worn 84 = .ok (.iinc 8 1, 3) := by decide +kernel
theorem dX8_worn_87 : decode cX8_worn 87 = .ok (.goto (-66), 3) := by decide +kernel
theorem dX8_worn_90 : decode cX8_worn 90 = .ok (.lload 4, 2) := by decide +kernel
theorem dX8_worn_92 : decode cX8_worn 92 = .ok (.iload 7, 2) := by decide +kernel
theorem dX8_worn_94 : decode cX8_worn 94 = .ok (.ifCond .eq 10, 3) := by decide +kernel
theorem dX8_worn_97 : decode cX8_worn 97 = .ok (.lconst 1, 1) := by decide +kernel
theorem dX8_worn_98 : decode cX8_worn 98 = .ok (.iload 6, 2) := by decide +kernel
theorem dX8_worn_100 : decode cX8_worn 100 = .ok (.lshl, 1) := by decide +kernel
theorem dX8_worn_101 : decode cX8_worn 101 = .ok (.goto 4, 3) := by decide +kernel
theorem dX8_worn_104 : decode cX8_worn 104 = .ok (.lconst 0, 1) := by decide +kernel
theorem dX8_worn_105 : decode cX8_worn 105 = .ok (.lor, 1) := by decide +kernel
theorem dX8_worn_106 : decode cX8_worn 106 = .ok (.lstore 4, 2) := by decide +kernel
theorem dX8_worn_108 : decode cX8_worn 108 = .ok (.iinc 6 1, 3) := by decide +kernel
theorem dX8_worn_111 : decode cX8_worn 111 = .ok (.goto (-105), 3) := by decide +kernel
theorem dX8_worn_114 : decode cX8_worn 114 = .ok (.lload 4, 2) := by decide +kernel
theorem dX8_worn_116 : decode cX8_worn 116 = .ok (.lreturn, 1) := by decide +kernel
set_option maxHeartbeats 4000000 in
set_option maxRecDepth 100000 in
theorem wX8_worn_L21 {n : Nat} {v1 : Int64} {v3 : Int32} {v4 : Int64} {v6 : Int32} (hx : p.tables.exec = Jvm.exec) (hb : c.code = cX8_worn) (hml : c.maxLocals = 10) (hown : s.vm.findClass RX8 = some m.cls) (hts : ∀ w ∈ tw, w.before args s = true) (hK : va_K D vwCl [(cI, .int), (cJ, .long)] s) (hP : va_P D vwCl (wdM cJ cI oM oM1 oM2 oM3 oM4 oM5 oM6 oM7 oM8 oM9 oM10 oM11 mw mt mrim mjn mhm mpn mbm mgm mpi mst mam mac mro mbe mhi mmi mgr mtr mle) H) (hR : 2 ≤ R.frames ∧ 49 ≤ R.locals ∧ cells ≤ R.cells ∧ slots ≤ R.slots) : ∀ (k : Nat) (v7 : Int32) (v8 : Int32) (x7 : Int32), mX8_worn_L21 n v3 mw mt v6 mrim v1 k v7 v8 = some (x7) → ∀ ls : Array Slot, lv_has ls 10 [(0, .ref oM), (1, .long v1), (3, .int v3), (4, .long v4), (6, .int v6), (7, .int v7), (8, .int v8)] → (∀ ls : Array Slot, lv_has ls 10 [(7, .int x7), (0, .ref oM), (1, .long v1), (3, .int v3), (4, .long v4), (6, .int v6)] → W p l e R s m args below meth c H locs cells slots Q (F0 m 90 ls [])) → W p l e R s m args below meth c H locs cells slots Q (F0 m 21 ls []) := by
  intro k
  induction k with
  | zero => intro v7 v8 x7 hm; rw [mX8_worn_L21] at hm; cases hm
  | succ k ih =>
    intro v7 v8 x7 hm ls hl K0
    rw [mX8_worn_L21] at hm
    refine lv_iload hx hb dX8_worn_21 (lv_at hl 6 rfl) ?_
    refine lv_bipush (v := (9 : Int32)) hx hb dX8_worn_23 (by decide) ?_
    refine lv_icmp_ge (tgt := 90) hx hb dX8_worn_25 (by decide) (fun c5 => ?_) (fun c5 => ?_)
    · rw [if_pos c5] at hm
      have hm := Option.some.inj hm
      have e9 : x7 = v7 := (congrArg (fun q => q) hm).symm
      rw [e9] at K0
      exact K0 ls (lv_sub hl [5, 0, 1, 2, 3, 4] rfl)
    · rw [if_neg c5] at hm
      refine lv_iload hx hb dX8_worn_28 (lv_at hl 5 rfl) ?_
      refine lv_if_eq (tgt := 90) hx hb dX8_worn_30 (by decide) (fun c6 => ?_) (fun c6 => ?_)
      · rw [if_pos c6] at hm
        have hm := Option.some.inj hm
        have e9 : x7 = v7 := (congrArg (fun q => q) hm).symm
        rw [e9] at K0
        exact K0 ls (lv_sub hl [5, 0, 1, 2, 3, 4] rfl)
      · rw [if_neg c6] at hm
        refine lv_iload_n hx hb dX8_worn_33 rfl (lv_at hl 2 rfl) ?_
        refine lv_iload hx hb dX8_worn_34 (lv_at hl 6 rfl) ?_
        refine lv_ishr hx hb dX8_worn_36 ?_
        refine lv_iconst (v := (1 : Int32)) hx hb dX8_worn_37 (by decide) ?_
        refine lv_iand hx hb dX8_worn_38 ?_
        refine lv_iconst (v := (1 : Int32)) hx hb dX8_worn_39 (by decide) ?_
        obtain ⟨j7, hi8, hm⟩ := jb_out hm
        have key9 : ∀ (ls : Array Slot), lv_has ls 10 [(7, .int j7), (0, .ref oM), (1, .long v1), (3, .int v3), (4, .long v4), (6, .int v6), (8, .int v8)] → W p l e R s m args below meth c H locs cells slots Q (F0 m 84 ls []) := by
          intro ls hl
          refine lv_iinc (v := (v8 + (1 : Int32))) (lv' := [(8, .int (v8 + (1 : Int32))), (7, .int j7), (0, .ref oM), (1, .long v1), (3, .int v3), (4, .long v4), (6, .int v6)]) hx hb dX8_worn_84 hl (k := 6) rfl (by rfl) (by decide) rfl (fun ls hl => ?_)
          refine lv_goto (tgt := 21) hx hb dX8_worn_87 (by decide) ?_
          exact ih _ _ _ hm ls (lv_sub hl [2, 3, 4, 5, 6, 1, 0] rfl) K0
        refine lv_icmp_ne (tgt := 84) hx hb dX8_worn_40 (by decide) (fun c10 => ?_) (fun c10 => ?_)
        · rw [if_neg c10] at hi8
          have hi8 := Option.some.inj hi8
          have e9 : j7 = v7 := (congrArg (fun q => q) hi8).symm
          rw [e9] at key9
          exact key9 ls (lv_sub hl [5, 0, 1, 2, 3, 4, 6] rfl)
        · rw [if_pos c10] at hi8
          refine lv_aload_n hx hb dX8_worn_43 rfl (lv_at hl 0 rfl) ?_
          refine lv_iload hx hb dX8_worn_44 (lv_at hl 4 rfl) ?_
          refine lv_iload hx hb dX8_worn_46 (lv_at hl 6 rfl) ?_
          obtain ⟨r11, h12, hi8⟩ := jb_out hi8
          refine kX8_stepFrom ⟨hx, hb, hml, hown, hts⟩ qw_82 hP hK h12 hl.1 ⟨Nat.le_trans (by decide) hR.1, Nat.le_trans (by decide) hR.2.1, hR.2.2⟩ (Nat.le_of_ble_eq_true rfl) dX8_worn_48 ?_
          refine lv_istore (lv' := [(9, .int r11), (0, .ref oM), (1, .long v1), (3, .int v3), (4, .long v4), (6, .int v6), (7, .int v7), (8, .int v8)]) hx hb dX8_worn_51 hl (by decide) rfl (fun ls hl => ?_)
          refine lv_iload hx hb dX8_worn_53 (lv_at hl 0 rfl) ?_
          refine lv_bipush (v := (-9 : Int32)) hx hb dX8_worn_55 (by decide) ?_
          obtain ⟨j13, hi14, hi8⟩ := jl_out hi8
          have key15 : ∀ (ls : Array Slot), lv_has ls 10 [(0, .ref oM), (1, .long v1), (3, .int v3), (4, .long v4), (6, .int v6), (8, .int v8)] → W p l e R s m args below meth c H locs cells slots Q (F0 m 82 ls [.int j13]) := by
            intro ls hl
            refine lv_istore (lv' := [(7, .int j13), (0, .ref oM), (1, .long v1), (3, .int v3), (4, .long v4), (6, .int v6), (8, .int v8)]) hx hb dX8_worn_82 hl (by decide) rfl (fun ls hl => ?_)
            have hi8 := Option.some.inj hi8
            have e9 : j7 = j13 := (congrArg (fun q => q) hi8).symm
            rw [e9] at key9
            exact key9 ls (lv_sub hl [0, 1, 2, 3, 4, 5, 6] rfl)
          refine lv_icmp_ne (tgt := 76) hx hb dX8_worn_57 (by decide) (fun c16 => ?_) (fun c16 => ?_)
          · rw [if_neg c16] at hi14
            refine lv_lload_n hx hb dX8_worn_76 rfl (lv_at hl 2 rfl) ?_
            refine lv_iload hx hb dX8_worn_77 (lv_at hl 0 rfl) ?_
            refine kX8_has ⟨hx, hb, hml, hown, hts⟩ qw_81 hl.1 ⟨Nat.le_trans (by decide) hR.1, Nat.le_trans (by decide) hR.2.1, hR.2.2⟩ (Nat.le_of_ble_eq_true rfl) dX8_worn_79 ?_
            rw [hi14] at key15
            exact key15 ls (lv_sub hl [1, 2, 3, 4, 5, 7] rfl)
          · rw [if_pos c16] at hi14
            refine lv_aload_n hx hb dX8_worn_60 rfl (lv_at hl 1 rfl) ?_
            refine va_get (D := D) (ci := 8) (v := .int mrim) (C := RX8) (T := TX8) (N := 19) hx hb hts tnX8 hown hK hP 0 rfl rfl 4 (by decide) (hts _ qw_86) (fun _ h9 => h9) rfl dX8_worn_61 ?_
            refine lv_iconst (v := (1 : Int32)) hx hb dX8_worn_64 (by decide) ?_
            refine lv_icmp_ne (tgt := 72) hx hb dX8_worn_65 (by decide) (fun c18 => ?_) (fun c18 => ?_)
            · rw [if_neg c18] at hi14
              refine lv_iconst (v := (0 : Int32)) hx hb dX8_worn_72 (by decide) ?_
              refine lv_goto (tgt := 82) hx hb dX8_worn_73 (by decide) ?_
              rw [hi14] at key15
              exact key15 ls (lv_sub hl [1, 2, 3, 4, 5, 7] rfl)
            · rw [if_pos c18] at hi14
              refine lv_iconst (v := (1 : Int32)) hx hb dX8_worn_68 (by decide) ?_
              refine lv_goto (tgt := 82) hx hb dX8_worn_69 (by decide) ?_
              rw [hi14] at key15
              exact key15 ls (lv_sub hl [1, 2, 3, 4, 5, 7] rfl)
set_option maxHeartbeats 4000000 in
set_option maxRecDepth 100000 in
theorem wX8_worn_L6 {n : Nat} {v1 : Int64} {v3 : Int32} (hx : p.tables.exec = Jvm.exec) (hb : c.code = cX8_worn) (hml : c.maxLocals = 10) (hown : s.vm.findClass RX8 = some m.cls) (hts : ∀ w ∈ tw, w.before args s = true) (hK : va_K D vwCl [(cI, .int), (cJ, .long)] s) (hP : va_P D vwCl (wdM cJ cI oM oM1 oM2 oM3 oM4 oM5 oM6 oM7 oM8 oM9 oM10 oM11 mw mt mrim mjn mhm mpn mbm mgm mpi mst mam mac mro mbe mhi mmi mgr mtr mle) H) (hR : 2 ≤ R.frames ∧ 49 ≤ R.locals ∧ cells ≤ R.cells ∧ slots ≤ R.slots) : ∀ (k : Nat) (v4 : Int64) (v6 : Int32) (x4 : Int64), mX8_worn_L6 n mw mt v3 mrim v1 k v4 v6 = some (x4) → ∀ ls : Array Slot, lv_has ls 10 [(0, .ref oM), (1, .long v1), (3, .int v3), (4, .long v4), (6, .int v6)] → (∀ ls : Array Slot, lv_has ls 10 [(4, .long x4)] → W p l e R s m args below meth c H locs cells slots Q (F0 m 114 ls [])) → W p l e R s m args below meth c H locs cells slots Q (F0 m 6 ls []) := by
  intro k
  induction k with
  | zero => intro v4 v6 x4 hm; rw [mX8_worn_L6] at hm; cases hm
  | succ k ih =>
    intro v4 v6 x4 hm ls hl K0
    rw [mX8_worn_L6] at hm
    refine lv_iload hx hb dX8_worn_6 (lv_at hl 4 rfl) ?_
    refine lv_aload_n hx hb dX8_worn_8 rfl (lv_at hl 0 rfl) ?_
    refine kX8_cells ⟨hx, hb, hml, hown, hts⟩ qw_60 hP hK hl.1 ⟨Nat.le_trans (by decide) hR.1, Nat.le_trans (by decide) hR.2.1, hR.2.2⟩ (Nat.le_of_ble_eq_true rfl) dX8_worn_9 ?_
    refine lv_icmp_ge (tgt := 114) hx hb dX8_worn_12 (by decide) (fun c3 => ?_) (fun c3 => ?_)
    · rw [if_pos c3] at hm
      have hm := Option.some.inj hm
      have e9 : x4 = v4 := (congrArg (fun q => q) hm).symm
      rw [e9] at K0
      exact K0 ls (lv_sub hl [3] rfl)
    · rw [if_neg c3] at hm
      refine lv_iconst (v := (1 : Int32)) hx hb dX8_worn_15 (by decide) ?_
      refine lv_istore (lv' := [(7, .int (1 : Int32)), (0, .ref oM), (1, .long v1), (3, .int v3), (4, .long v4), (6, .int v6)]) hx hb dX8_worn_16 hl (by decide) rfl (fun ls hl => ?_)
      refine lv_iconst (v := (0 : Int32)) hx hb dX8_worn_18 (by decide) ?_
      refine lv_istore (lv' := [(8, .int (0 : Int32)), (7, .int (1 : Int32)), (0, .ref oM), (1, .long v1), (3, .int v3), (4, .long v4), (6, .int v6)]) hx hb dX8_worn_19 hl (by decide) rfl (fun ls hl => ?_)
      obtain ⟨y19, h20, hm⟩ := jb_out hm
      refine wX8_worn_L21 hx hb hml hown hts hK hP hR n _ _ _  h20 ls (lv_sub hl [2, 3, 4, 5, 6, 1, 0] rfl) (fun ls hl => ?_)
      refine lv_lload hx hb dX8_worn_90 (lv_at hl 4 rfl) ?_
      refine lv_iload hx hb dX8_worn_92 (lv_at hl 0 rfl) ?_
      obtain ⟨j21, hi22, hm⟩ := jl_out hm
      have key23 : ∀ (ls : Array Slot), lv_has ls 10 [(0, .ref oM), (1, .long v1), (3, .int v3), (6, .int v6)] → W p l e R s m args below meth c H locs cells slots Q (F0 m 105 ls [.long j21, .long v4]) := by
        intro ls hl
        refine lv_lor hx hb dX8_worn_105 ?_
        refine lv_lstore (lv' := [(4, .long (v4 ||| j21)), (0, .ref oM), (1, .long v1), (3, .int v3), (6, .int v6)]) hx hb dX8_worn_106 hl (by decide) rfl (fun ls hl => ?_)
        refine lv_iinc (v := (v6 + (1 : Int32))) (lv' := [(6, .int (v6 + (1 : Int32))), (4, .long (v4 ||| j21)), (0, .ref oM), (1, .long v1), (3, .int v3)]) hx hb dX8_worn_108 hl (k := 4) rfl (by rfl) (by decide) rfl (fun ls hl => ?_)
        refine lv_goto (tgt := 6) hx hb dX8_worn_111 (by decide) ?_
        exact ih _ _ _ hm ls (lv_sub hl [2, 3, 4, 1, 0] rfl) K0
      refine lv_if_eq (tgt := 104) hx hb dX8_worn_94 (by decide) (fun c24 => ?_) (fun c24 => ?_)
      · rw [if_pos c24] at hi22
        refine lv_lconst (v := (0 : Int64)) hx hb dX8_worn_104 (by decide) ?_
        rw [hi22] at key23
        exact key23 ls (lv_sub hl [1, 2, 3, 5] rfl)
      · rw [if_neg c24] at hi22
        refine lv_lconst (v := (1 : Int64)) hx hb dX8_worn_97 (by decide) ?_
        refine lv_iload hx hb dX8_worn_98 (lv_at hl 5 rfl) ?_
        refine lv_lshl (v := (jlshl (1 : Int64) v6)) hx hb dX8_worn_100 rfl ?_
        refine lv_goto (tgt := 105) hx hb dX8_worn_101 (by decide) ?_
        rw [hi22] at key23
        exact key23 ls (lv_sub hl [1, 2, 3, 5] rfl)
set_option maxHeartbeats 4000000 in
set_option maxRecDepth 100000 in
theorem bX8_worn {n : Nat} {a1 : Int64} {a3 : Int32} {r : Int64} (hx : p.tables.exec = Jvm.exec) (hb : c.code = cX8_worn) (hml : c.maxLocals = 10) (hown : s.vm.findClass RX8 = some m.cls) (hts : ∀ w ∈ tw, w.before args s = true) (hK : va_K D vwCl [(cI, .int), (cJ, .long)] s) (hP : va_P D vwCl (wdM cJ cI oM oM1 oM2 oM3 oM4 oM5 oM6 oM7 oM8 oM9 oM10 oM11 mw mt mrim mjn mhm mpn mbm mgm mpi mst mam mac mro mbe mhi mmi mgr mtr mle) H) (hR : 2 ≤ R.frames ∧ 49 ≤ R.locals ∧ cells ≤ R.cells ∧ slots ≤ R.slots) (hm : mX8_worn n mw mt mrim a1 a3 = some r) (ls : Array Slot) (hl : lv_has ls 10 [(0, .ref oM), (1, .long a1), (3, .int a3)]) (K : ∀ (pc : Nat) (ls : Array Slot), decode cX8_worn pc = .ok (.lreturn, 1) → W p l e R s m args below meth c H locs cells slots Q (F0 m pc ls [.long r])) : W p l e R s m args below meth c H locs cells slots Q (F0 m 0 ls []) := by
  unfold mX8_worn at hm
  refine lv_lconst (v := (0 : Int64)) hx hb dX8_worn_0 (by decide) ?_
  refine lv_lstore (lv' := [(4, .long (0 : Int64)), (0, .ref oM), (1, .long a1), (3, .int a3)]) hx hb dX8_worn_1 hl (by decide) rfl (fun ls hl => ?_)
  refine lv_iconst (v := (0 : Int32)) hx hb dX8_worn_3 (by decide) ?_
  refine lv_istore (lv' := [(6, .int (0 : Int32)), (4, .long (0 : Int64)), (0, .ref oM), (1, .long a1), (3, .int a3)]) hx hb dX8_worn_4 hl (by decide) rfl (fun ls hl => ?_)
  obtain ⟨y25, h26, hm⟩ := jb_out hm
  refine wX8_worn_L6 hx hb hml hown hts hK hP hR n _ _ _  h26 ls (lv_sub hl [2, 3, 4, 1, 0] rfl) (fun ls hl => ?_)
  refine lv_lload hx hb dX8_worn_114 (lv_at hl 0 rfl) ?_
  have hm := Option.some.inj hm
  subst hm
  exact K 116 ls dX8_worn_116
set_option maxHeartbeats 4000000 in
set_option maxRecDepth 100000 in
theorem tX8_worn (l : Launch) {D : va_G} {n : Nat} {a1 : Int64} {a3 : Int32} {r : Int64} (hm : mX8_worn n mw mt mrim a1 a3 = some r) : Met l yX8_worn (.code yX8_worn cX8_worn 10 (some .long) :: tw) ({ frames := 2, cells := 0, slots := 0, locals := 49 } : Room) (rdP D [.ref oM, .long a1, .int a3] (wdM cJ cI oM oM1 oM2 oM3 oM4 oM5 oM6 oM7 oM8 oM9 oM10 oM11 mw mt mrim mjn mhm mpn mbm mgm mpi mst mam mac mro mbe mhi mmi mgr mtr mle) [(cI, .int), (cJ, .long)]) (vp_Sl (fun q => q = r)) 0 0 (fun _ => False) := by
  refine Met.ofW (cc := cX8_worn) (maxL := 10) (ret := (some .long)) (by decide) rfl ?_
  intro p e s m args below meth c s₁ B hml hv
  obtain ⟨rfl, hP, hK⟩ := hv
  have hx := B.exec
  have hb := B.bytes
  have hr := B.returns
  have hts : ∀ w ∈ tw, w.before _ s = true := fun w h => atoms_spec (ws := .code yX8_worn cX8_worn 10 (some .long) :: tw) B.pre w (List.mem_cons_of_mem _ h)
  have hown : s.vm.findClass RX8 = some m.cls := findClass_of_methodNamed B.named
  have hlocks := B.notSynchronized
  have hl := lv_entry ([.ref oM, .long a1, .int a3]) (n := 10) (Nat.le_of_ble_eq_true rfl)
  rw [lg_entry_eq]
  generalize (lg_sl ([.ref oM, .long a1, .int a3]) ++ List.replicate (10 - (lg_sl ([.ref oM, .long a1, .int a3])).length) Slot.unset).toArray = ls at hl ⊢
  refine bX8_worn hx hb hml hown hts hK hP ⟨Nat.le_of_ble_eq_true rfl, Nat.le_of_ble_eq_true rfl, Nat.zero_le _, Nat.zero_le _⟩ hm ls hl (fun pc ls hd => ?_)
  exact W.lret hx hb hr (fun t ht hW => ⟨r, rfl, rfl, ht⟩) (fun q h => by cases h) hd
set_option maxHeartbeats 4000000 in
set_option maxRecDepth 100000 in
theorem kX8_worn {own : String} {cc : ByteArray} {nL idx pc : Nat} {ls : Array Slot} {rest : List Value} {n : Nat} {a1 : Int64} {a3 : Int32} {r : Int64} (fx : CallFix p m c cc nL s args tw own) (hq : Cond.methodLink own idx yX8_worn ∈ tw) (hP : va_P D vwCl (wdM cJ cI oM oM1 oM2 oM3 oM4 oM5 oM6 oM7 oM8 oM9 oM10 oM11 mw mt mrim mjn mhm mpn mbm mgm mpi mst mam mac mro mbe mhi mmi mgr mtr mle) H) (hK : va_K D vwCl [(cI, .int), (cJ, .long)] s) (hm : mX8_worn n mw mt mrim a1 a3 = some r) (hsz : ls.size = nL) (hR : 3 ≤ R.frames ∧ 78 ≤ R.locals ∧ cells ≤ R.cells ∧ slots ≤ R.slots) (hst : (rest.map fun v => v.category).sum ≤ 8) (hd : decode cc pc = .ok (.invokevirtual idx, 3)) (kk : W p l e R s m args below meth c H locs cells slots Q (F0 m (pc + 3) ls (.long r :: rest))) : W p l e R s m args below meth c H locs cells slots Q (F0 m pc ls (.int a3 :: .long a1 :: .ref oM :: rest)) := by
  exact vp_callSl (va_Run.run (va_runV (As := [.long a1, .int a3]) (rest := rest) fx (tX8_worn l hm) (cwV 2 fx.2.2.2.2 (tw_V hq qw_87 qw_88 qw_53 qw_89) rfl rfl rfl (by decide +kernel) ⟨hR.1, hR.2.1⟩) ⟨rdP_bl, va_recv hK hP (ci := 8) (q0 := 0) rfl rfl, rdP_ok hP hK⟩ rfl rfl hsz rfl (lv_room hst) hd ⟨hR.2.2.1, hR.2.2.2⟩)) (fun r9 hr9 => by first | (rw [hr9]; exact kk) | (rw [hr9.1]; exact kk))
end
