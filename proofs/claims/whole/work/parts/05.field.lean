theorem qw_15 : Cond.fieldLink RX1 33 "WornShapes$Field" "cells" "I" ∈ tw := tw_of (by decide +kernel) rfl
theorem qw_16 : Cond.instanceMethod yX1_isCell ∈ tw := tw_of (by decide +kernel) rfl
theorem qw_17 : Cond.selects RX1 yX1_isCell yX1_isCell ∈ tw := tw_of (by decide +kernel) rfl
theorem qw_18 : Cond.initialized RX1 ∈ tw := tw_of (by decide +kernel) rfl
theorem qw_19 : Cond.code yX1_isCell cX1_isCell 2 (some .boolean) ∈ tw := tw_of (by decide +kernel) rfl
theorem qw_20 : Cond.fieldLink RX1 11 "WornShapes$Field" "raises" "[I" ∈ tw := tw_of (by decide +kernel) rfl
theorem qw_21 : Cond.fieldLink RX1 15 "WornShapes$Field" "starts" "[J" ∈ tw := tw_of (by decide +kernel) rfl
theorem qw_22 : Cond.instanceMethod yX1_ahead ∈ tw := tw_of (by decide +kernel) rfl
theorem qw_23 : Cond.selects RX1 yX1_ahead yX1_ahead ∈ tw := tw_of (by decide +kernel) rfl
theorem qw_24 : Cond.code yX1_ahead cX1_ahead 7 (some .long) ∈ tw := tw_of (by decide +kernel) rfl
theorem qw_25 : Cond.instanceMethod yX1_behind ∈ tw := tw_of (by decide +kernel) rfl
theorem qw_26 : Cond.selects RX1 yX1_behind yX1_behind ∈ tw := tw_of (by decide +kernel) rfl
theorem qw_27 : Cond.code yX1_behind cX1_behind 5 (some .long) ∈ tw := tw_of (by decide +kernel) rfl
theorem qw_28 : Cond.methodLink RX1 48 yX1_ahead ∈ tw := tw_of (by decide +kernel) rfl
theorem qw_29 : Cond.instanceMethod yX1_grown ∈ tw := tw_of (by decide +kernel) rfl
theorem qw_30 : Cond.selects RX1 yX1_grown yX1_grown ∈ tw := tw_of (by decide +kernel) rfl
theorem qw_31 : Cond.code yX1_grown cX1_grown 7 (some .long) ∈ tw := tw_of (by decide +kernel) rfl
theorem qw_32 : Cond.fieldLink RX1 36 "WornShapes$Field" "whole" "J" ∈ tw := tw_of (by decide +kernel) rfl
theorem qw_33 : Cond.methodLink RX1 52 yX1_behind ∈ tw := tw_of (by decide +kernel) rfl
theorem qw_34 : Cond.constantLong RX1 46 (-1) ∈ tw := tw_of (by decide +kernel) rfl
theorem qw_35 : Cond.instanceMethod yX1_worn ∈ tw := tw_of (by decide +kernel) rfl
theorem qw_36 : Cond.selects RX1 yX1_worn yX1_worn ∈ tw := tw_of (by decide +kernel) rfl
theorem qw_37 : Cond.code yX1_worn cX1_worn 8 (some .long) ∈ tw := tw_of (by decide +kernel) rfl
theorem qw_38 : Cond.fieldLink RX1 19 "WornShapes$Field" "columns" "[I" ∈ tw := tw_of (by decide +kernel) rfl
theorem qw_39 : Cond.fieldLink RX1 22 "WornShapes$Field" "rows" "[I" ∈ tw := tw_of (by decide +kernel) rfl
theorem qw_40 : Cond.fieldLink RX1 29 "WornShapes$Field" "width" "I" ∈ tw := tw_of (by decide +kernel) rfl
theorem qw_41 : Cond.instanceMethod yX1_rectangle ∈ tw := tw_of (by decide +kernel) rfl
theorem qw_42 : Cond.selects RX1 yX1_rectangle yX1_rectangle ∈ tw := tw_of (by decide +kernel) rfl
theorem qw_43 : Cond.code yX1_rectangle cX1_rectangle 10 (some .long) ∈ tw := tw_of (by decide +kernel) rfl
section
variable {A : Nat → Prop} {p : Program} {l : Launch} {e : Env} {R : Room} {s : State} {m : MethodId} {args : Array Value} {below : List Frame} {meth : Method} {c : Code} {H : Heap} {locs : List Loc} {cells slots : Nat} {Q : State → Prop} {D : va_G} {oF : Nat} {oFr : Nat} {oFs : Nat} {oFc : Nat} {oFw : Nat} {oS : Nat} {oSs : Nat} {oG : Nat} {oGa : Nat} {oQ : Nat} {oQw : Nat} {oI : Nat} {oR : Nat} {oRh : Nat} {oRm : Nat} {oB : Nat} {oBw : Nat} {oX : Nat} {oXp : Nat} {oXg : Nat} {oG0 : Nat} {oGa0 : Nat} {oG1 : Nat} {oGa1 : Nat} {oG2 : Nat} {oGa2 : Nat} {oM : Nat} {oM1 : Nat} {oM2 : Nat} {oM3 : Nat} {oM4 : Nat} {oM5 : Nat} {oM6 : Nat} {oM7 : Nat} {oM8 : Nat} {oM9 : Nat} {oM10 : Nat} {oM11 : Nat} {tS : Nat} {tA : Nat} {cI : ClassId} {cJ : ClassId} {cG : ClassId} {fw : Int32} {fc : Int32} {fwh : Int64} {fbo : Int64} {fra : Nat → Int32} {fco : Nat → Int32} {fro : Nat → Int32} {fst : Nat → Int64} {srim : Int32} {sst : Nat → Int32} {gsz : Int32} {gac : Nat → Int32} {qln : Int32} {qwy : Nat → Int32} {ijn : Int32} {rsz : Int32} {rhi : Nat → Int32} {rmi : Nat → Int32} {bsz : Int32} {bfi : Int32} {bla : Int32} {bar : Int32} {bwi : Nat → Int64} {xpi : Nat → Int64} {gs0 : Int32} {gs1 : Int32} {gs2 : Int32} {ga0 : Nat → Int32} {ga1 : Nat → Int32} {ga2 : Nat → Int32} {mw : Int32} {mt : Int32} {mrim : Int32} {mjn : Int32} {mhm : Int32} {mpn : Int32} {mbm : Int32} {mgm : Int32} {mpi : Nat → Int64} {mbe : Nat → Int64} {mgr : Nat → Int64} {mle : Nat → Int64} {mst : Nat → Int32} {mam : Nat → Int32} {mac : Nat → Int32} {mro : Nat → Int32} {mhi : Nat → Int32} {mmi : Nat → Int32} {mtr : Nat → Int32}
-- X1_isCell
def mX1_isCell (fc : Int32) (a1 : Int32) : Int32 :=
  (if a1 < 0 then (0 : Int32) else (if fc ≤ a1 then (0 : Int32) else (1 : Int32)))
theorem dX1_isCell_0 : decode cX1_isCell 0 = .ok (.iload_n 1, 1) := by decide +kernel
theorem dX1_isCell_1 : decode cX1_isCell 1 = .ok (.ifCond .lt 15, 3) := by decide +kernel
theorem dX1_isCell_4 : decode cX1_isCell 4 = .ok (.iload_n 1, 1) := by decide +kernel
theorem dX1_isCell_5 : decode cX1_isCell 5 = .ok (.aload_n 0, 1) := by decide +kernel
theorem dX1_isCell_6 : decode cX1_isCell 6 = .ok (.getfield 33, 3) := by decide +kernel
theorem dX1_isCell_9 : decode cX1_isCell 9 = .ok (.if_icmp .ge 7, 3) := by decide +kernel
theorem dX1_isCell_12 : decode cX1_isCell 12 = .ok (.iconst 1, 1) := by decide +kernel
theorem dX1_isCell_13 : decode cX1_isCell 13 = .ok (.goto 4, 3) := by decide +kernel
theorem dX1_isCell_16 : decode cX1_isCell 16 = .ok (.iconst 0, 1) := by decide +kernel
theorem dX1_isCell_17 : decode cX1_isCell 17 = .ok (.ireturn, 1) := by decide +kernel
set_option maxHeartbeats 4000000 in
set_option maxRecDepth 100000 in
theorem bX1_isCell {a1 : Int32} {r : Int32} (hx : p.tables.exec = Jvm.exec) (hb : c.code = cX1_isCell) (hml : c.maxLocals = 2) (hown : s.vm.findClass RX1 = some m.cls) (hts : ∀ w ∈ tw, w.before args s = true) (hK : va_K D vwCl [(cI, .int), (cJ, .long)] s) (hP : va_P D vwCl (wdF cI cJ oF oFr oFs oFc oFw fw fc fwh fbo fra fst fco fro) H) (hR : 0 ≤ R.frames ∧ 0 ≤ R.locals ∧ cells ≤ R.cells ∧ slots ≤ R.slots) (hm : mX1_isCell fc a1 = r) (ls : Array Slot) (hl : lv_has ls 2 [(0, .ref oF), (1, .int a1)]) (K : ∀ (pc : Nat) (ls : Array Slot), decode cX1_isCell pc = .ok (.ireturn, 1) → narrow .boolean (.int r) = .int r → W p l e R s m args below meth c H locs cells slots Q (F0 m pc ls [.int r])) : W p l e R s m args below meth c H locs cells slots Q (F0 m 0 ls []) := by
  unfold mX1_isCell at hm
  refine lv_iload_n hx hb dX1_isCell_0 rfl (lv_at hl 1 rfl) ?_
  refine lv_if_lt (tgt := 16) hx hb dX1_isCell_1 (by decide) (fun c1 => ?_) (fun c1 => ?_)
  · rw [if_pos c1] at hm
    refine lv_iconst (v := (0 : Int32)) hx hb dX1_isCell_16 (by decide) ?_
    subst hm
    exact K 17 ls dX1_isCell_17 rfl
  · rw [if_neg c1] at hm
    refine lv_iload_n hx hb dX1_isCell_4 rfl (lv_at hl 1 rfl) ?_
    refine lv_aload_n hx hb dX1_isCell_5 rfl (lv_at hl 0 rfl) ?_
    refine va_get (D := D) (ci := 1) (v := .int fc) (C := RX1) (T := TX1) (N := 8) hx hb hts tnX1 hown hK hP 0 rfl rfl 1 (by decide) (hts _ qw_15) (fun _ h9 => h9) rfl dX1_isCell_6 ?_
    refine lv_icmp_ge (tgt := 16) hx hb dX1_isCell_9 (by decide) (fun c2 => ?_) (fun c2 => ?_)
    · rw [if_pos c2] at hm
      refine lv_iconst (v := (0 : Int32)) hx hb dX1_isCell_16 (by decide) ?_
      subst hm
      exact K 17 ls dX1_isCell_17 rfl
    · rw [if_neg c2] at hm
      refine lv_iconst (v := (1 : Int32)) hx hb dX1_isCell_12 (by decide) ?_
      refine lv_goto (tgt := 17) hx hb dX1_isCell_13 (by decide) ?_
      subst hm
      exact K 17 ls dX1_isCell_17 rfl
set_option maxHeartbeats 4000000 in
set_option maxRecDepth 100000 in
theorem tX1_isCell (l : Launch) {D : va_G} {a1 : Int32} {r : Int32} (hm : mX1_isCell fc a1 = r) : Met l yX1_isCell (.code yX1_isCell cX1_isCell 2 (some .boolean) :: tw) ({ frames := 0, cells := 0, slots := 0, locals := 0 } : Room) (rdP D [.ref oF, .int a1] (wdF cI cJ oF oFr oFs oFc oFw fw fc fwh fbo fra fst fco fro) [(cI, .int), (cJ, .long)]) (vp_Si (fun q => q = r ∧ narrow .boolean (.int q) = .int q)) 0 0 (fun _ => False) := by
  refine Met.ofW (cc := cX1_isCell) (maxL := 2) (ret := (some .boolean)) (by decide) rfl ?_
  intro p e s m args below meth c s₁ B hml hv
  obtain ⟨rfl, hP, hK⟩ := hv
  have hx := B.exec
  have hb := B.bytes
  have hr := B.returns
  have hts : ∀ w ∈ tw, w.before _ s = true := fun w h => atoms_spec (ws := .code yX1_isCell cX1_isCell 2 (some .boolean) :: tw) B.pre w (List.mem_cons_of_mem _ h)
  have hown : s.vm.findClass RX1 = some m.cls := findClass_of_methodNamed B.named
  have hlocks := B.notSynchronized
  have hl := lv_entry ([.ref oF, .int a1]) (n := 2) (Nat.le_of_ble_eq_true rfl)
  rw [lg_entry_eq]
  generalize (lg_sl ([.ref oF, .int a1]) ++ List.replicate (2 - (lg_sl ([.ref oF, .int a1])).length) Slot.unset).toArray = ls at hl ⊢
  refine bX1_isCell hx hb hml hown hts hK hP ⟨Nat.le_of_ble_eq_true rfl, Nat.le_of_ble_eq_true rfl, Nat.zero_le _, Nat.zero_le _⟩ hm ls hl (fun pc ls hd hz => ?_)
  exact W.zret hx hb hr hz (fun t ht hW => ⟨r, rfl, ⟨rfl, hz⟩, ht⟩) (fun q h => by cases h) hd
set_option maxHeartbeats 4000000 in
set_option maxRecDepth 100000 in
theorem kX1_isCell {own : String} {cc : ByteArray} {nL idx pc : Nat} {ls : Array Slot} {rest : List Value} {a1 : Int32} (fx : CallFix p m c cc nL s args tw own) (hq : Cond.methodLink own idx yX1_isCell ∈ tw) (hP : va_P D vwCl (wdF cI cJ oF oFr oFs oFc oFw fw fc fwh fbo fra fst fco fro) H) (hK : va_K D vwCl [(cI, .int), (cJ, .long)] s) (hsz : ls.size = nL) (hR : 1 ≤ R.frames ∧ 21 ≤ R.locals ∧ cells ≤ R.cells ∧ slots ≤ R.slots) (hst : (rest.map fun v => v.category).sum ≤ 8) (hd : decode cc pc = .ok (.invokevirtual idx, 3)) (kk : W p l e R s m args below meth c H locs cells slots Q (F0 m (pc + 3) ls (.int (mX1_isCell fc a1) :: rest))) : W p l e R s m args below meth c H locs cells slots Q (F0 m pc ls (.int a1 :: .ref oF :: rest)) := by
  exact vp_callSi (va_Run.run (va_runV (As := [.int a1]) (rest := rest) fx (tX1_isCell l rfl) (cwV 1 fx.2.2.2.2 (tw_V hq qw_16 qw_17 qw_18 qw_19) rfl rfl rfl (by decide +kernel) ⟨hR.1, hR.2.1⟩) ⟨rdP_bl, va_recv hK hP (ci := 1) (q0 := 0) rfl rfl, rdP_ok hP hK⟩ rfl rfl hsz rfl (lv_room hst) hd ⟨hR.2.2.1, hR.2.2.2⟩)) (fun r9 hr9 => by first | (rw [hr9]; exact kk) | (rw [hr9.1]; exact kk))
-- X1_ahead
def mX1_ahead (fra : Nat → Int32) (fst : Nat → Int64) (a1 : Int64) (a3 : Int32) : Option Int64 :=
  gd (ib a3 9) (gd (ib a3 9) ((if (fra a3.toNatClampNeg) < 0 then (some (jlushr (a1 &&& (fst a3.toNatClampNeg)) (-(fra a3.toNatClampNeg)))) else (some (jlshl (a1 &&& (fst a3.toNatClampNeg)) (fra a3.toNatClampNeg))))))
theorem dX1_ahead_0 : decode cX1_ahead 0 = .ok (.aload_n 0, 1) := by decide +kernel
theorem dX1_ahead_1 : decode cX1_ahead 1 = .ok (.getfield 11, 3) := by decide +kernel
theorem dX1_ahead_4 : decode cX1_ahead 4 = .ok (.iload_n 3, 1) := by decide +kernel
theorem dX1_ahead_5 : decode cX1_ahead 5 = .ok (.iaload, 1) := by decide +kernel
theorem dX1_ahead_6 : decode cX1_ahead 6 = .ok (.istore 4, 2) := by decide +kernel
theorem dX1_ahead_8 : decode cX1_ahead 8 = .ok (.lload_n 1, 1) := by decide +kernel
theorem dX1_ahead_9 : decode cX1_ahead 9 = .ok (.aload_n 0, 1) := by decide +kernel
theorem dX1_ahead_10 : decode cX1_ahead 10 = .ok (.getfield 15, 3) := by decide +kernel
theorem dX1_ahead_13 : decode cX1_ahead 13 = .ok (.iload_n 3, 1) := by decide +kernel
theorem dX1_ahead_14 : decode cX1_ahead 14 = .ok (.laload, 1) := by decide +kernel
theorem dX1_ahead_15 : decode cX1_ahead 15 = .ok (.land, 1) := by decide +kernel
theorem dX1_ahead_16 : decode cX1_ahead 16 = .ok (.lstore 5, 2) := by decide +kernel
theorem dX1_ahead_18 : decode cX1_ahead 18 = .ok (.iload 4, 2) := by decide +kernel
theorem dX1_ahead_20 : decode cX1_ahead 20 = .ok (.ifCond .lt 11, 3) := by decide +kernel
theorem dX1_ahead_23 : decode cX1_ahead 23 = .ok (.lload 5, 2) := by decide +kernel
theorem dX1_ahead_25 : decode cX1_ahead 25 = .ok (.iload 4, 2) := by decide +kernel
theorem dX1_ahead_27 : decode cX1_ahead 27 = .ok (.lshl, 1) := by decide +kernel
theorem dX1_ahead_28 : decode cX1_ahead 28 = .ok (.goto 9, 3) := by decide +kernel
theorem dX1_ahead_31 : decode cX1_ahead 31 = .ok (.lload 5, 2) := by decide +kernel
theorem dX1_ahead_33 : decode cX1_ahead 33 = .ok (.iload 4, 2) := by decide +kernel
theorem dX1_ahead_35 : decode cX1_ahead 35 = .ok (.ineg, 1) := by decide +kernel
theorem dX1_ahead_36 : decode cX1_ahead 36 = .ok (.lushr, 1) := by decide +kernel
theorem dX1_ahead_37 : decode cX1_ahead 37 = .ok (.lreturn, 1) := by decide +kernel
set_option maxHeartbeats 4000000 in
set_option maxRecDepth 100000 in
theorem bX1_ahead {a1 : Int64} {a3 : Int32} {r : Int64} (hx : p.tables.exec = Jvm.exec) (hb : c.code = cX1_ahead) (hml : c.maxLocals = 7) (hown : s.vm.findClass RX1 = some m.cls) (hts : ∀ w ∈ tw, w.before args s = true) (hK : va_K D vwCl [(cI, .int), (cJ, .long)] s) (hP : va_P D vwCl (wdF cI cJ oF oFr oFs oFc oFw fw fc fwh fbo fra fst fco fro) H) (hR : 0 ≤ R.frames ∧ 0 ≤ R.locals ∧ cells ≤ R.cells ∧ slots ≤ R.slots) (hm : mX1_ahead fra fst a1 a3 = some r) (ls : Array Slot) (hl : lv_has ls 7 [(0, .ref oF), (1, .long a1), (3, .int a3)]) (K : ∀ (pc : Nat) (ls : Array Slot), decode cX1_ahead pc = .ok (.lreturn, 1) → W p l e R s m args below meth c H locs cells slots Q (F0 m pc ls [.long r])) : W p l e R s m args below meth c H locs cells slots Q (F0 m 0 ls []) := by
  unfold mX1_ahead at hm
  refine lv_aload_n hx hb dX1_ahead_0 rfl (lv_at hl 0 rfl) ?_
  refine va_get (D := D) (ci := 1) (v := .ref oFr) (C := RX1) (T := TX1) (N := 8) hx hb hts tnX1 hown hK hP 0 rfl rfl 4 (by decide) (hts _ qw_20) (fun _ h9 => h9) rfl dX1_ahead_1 ?_
  refine lv_iload_n hx hb dX1_ahead_4 rfl (lv_at hl 2 rfl) ?_
  obtain ⟨g1, hm⟩ := gd_out hm
  refine va_iald hx hb hK hP 1 0 rfl rfl g1 dX1_ahead_5 ?_
  refine lv_istore (lv' := [(4, .int (fra a3.toNatClampNeg)), (0, .ref oF), (1, .long a1), (3, .int a3)]) hx hb dX1_ahead_6 hl (by decide) rfl (fun ls hl => ?_)
  refine lv_lload_n hx hb dX1_ahead_8 rfl (lv_at hl 2 rfl) ?_
  refine lv_aload_n hx hb dX1_ahead_9 rfl (lv_at hl 1 rfl) ?_
  refine va_get (D := D) (ci := 1) (v := .ref oFs) (C := RX1) (T := TX1) (N := 8) hx hb hts tnX1 hown hK hP 0 rfl rfl 5 (by decide) (hts _ qw_21) (fun _ h9 => h9) rfl dX1_ahead_10 ?_
  refine lv_iload_n hx hb dX1_ahead_13 rfl (lv_at hl 3 rfl) ?_
  obtain ⟨g2, hm⟩ := gd_out hm
  refine va_lald hx hb hK hP 2 1 rfl rfl g2 dX1_ahead_14 ?_
  refine lv_land hx hb dX1_ahead_15 ?_
  refine lv_lstore (lv' := [(5, .long (a1 &&& (fst a3.toNatClampNeg))), (4, .int (fra a3.toNatClampNeg)), (0, .ref oF), (1, .long a1), (3, .int a3)]) hx hb dX1_ahead_16 hl (by decide) rfl (fun ls hl => ?_)
  refine lv_iload hx hb dX1_ahead_18 (lv_at hl 1 rfl) ?_
  refine lv_if_lt (tgt := 31) hx hb dX1_ahead_20 (by decide) (fun c3 => ?_) (fun c3 => ?_)
  · rw [if_pos c3] at hm
    refine lv_lload hx hb dX1_ahead_31 (lv_at hl 0 rfl) ?_
    refine lv_iload hx hb dX1_ahead_33 (lv_at hl 1 rfl) ?_
    refine lv_ineg hx hb dX1_ahead_35 ?_
    refine lv_lushr (v := (jlushr (a1 &&& (fst a3.toNatClampNeg)) (-(fra a3.toNatClampNeg)))) hx hb dX1_ahead_36 rfl ?_
    have hm := Option.some.inj hm
    subst hm
    exact K 37 ls dX1_ahead_37
  · rw [if_neg c3] at hm
    refine lv_lload hx hb dX1_ahead_23 (lv_at hl 0 rfl) ?_
    refine lv_iload hx hb dX1_ahead_25 (lv_at hl 1 rfl) ?_
    refine lv_lshl (v := (jlshl (a1 &&& (fst a3.toNatClampNeg)) (fra a3.toNatClampNeg))) hx hb dX1_ahead_27 rfl ?_
    refine lv_goto (tgt := 37) hx hb dX1_ahead_28 (by decide) ?_
    have hm := Option.some.inj hm
    subst hm
    exact K 37 ls dX1_ahead_37
set_option maxHeartbeats 4000000 in
set_option maxRecDepth 100000 in
theorem tX1_ahead (l : Launch) {D : va_G} {a1 : Int64} {a3 : Int32} {r : Int64} (hm : mX1_ahead fra fst a1 a3 = some r) : Met l yX1_ahead (.code yX1_ahead cX1_ahead 7 (some .long) :: tw) ({ frames := 0, cells := 0, slots := 0, locals := 0 } : Room) (rdP D [.ref oF, .long a1, .int a3] (wdF cI cJ oF oFr oFs oFc oFw fw fc fwh fbo fra fst fco fro) [(cI, .int), (cJ, .long)]) (vp_Sl (fun q => q = r)) 0 0 (fun _ => False) := by
  refine Met.ofW (cc := cX1_ahead) (maxL := 7) (ret := (some .long)) (by decide) rfl ?_
  intro p e s m args below meth c s₁ B hml hv
  obtain ⟨rfl, hP, hK⟩ := hv
  have hx := B.exec
  have hb := B.bytes
  have hr := B.returns
  have hts : ∀ w ∈ tw, w.before _ s = true := fun w h => atoms_spec (ws := .code yX1_ahead cX1_ahead 7 (some .long) :: tw) B.pre w (List.mem_cons_of_mem _ h)
  have hown : s.vm.findClass RX1 = some m.cls := findClass_of_methodNamed B.named
  have hlocks := B.notSynchronized
  have hl := lv_entry ([.ref oF, .long a1, .int a3]) (n := 7) (Nat.le_of_ble_eq_true rfl)
  rw [lg_entry_eq]
  generalize (lg_sl ([.ref oF, .long a1, .int a3]) ++ List.replicate (7 - (lg_sl ([.ref oF, .long a1, .int a3])).length) Slot.unset).toArray = ls at hl ⊢
  refine bX1_ahead hx hb hml hown hts hK hP ⟨Nat.le_of_ble_eq_true rfl, Nat.le_of_ble_eq_true rfl, Nat.zero_le _, Nat.zero_le _⟩ hm ls hl (fun pc ls hd => ?_)
  exact W.lret hx hb hr (fun t ht hW => ⟨r, rfl, rfl, ht⟩) (fun q h => by cases h) hd
set_option maxHeartbeats 4000000 in
set_option maxRecDepth 100000 in
theorem kX1_ahead {own : String} {cc : ByteArray} {nL idx pc : Nat} {ls : Array Slot} {rest : List Value} {a1 : Int64} {a3 : Int32} {r : Int64} (fx : CallFix p m c cc nL s args tw own) (hq : Cond.methodLink own idx yX1_ahead ∈ tw) (hP : va_P D vwCl (wdF cI cJ oF oFr oFs oFc oFw fw fc fwh fbo fra fst fco fro) H) (hK : va_K D vwCl [(cI, .int), (cJ, .long)] s) (hm : mX1_ahead fra fst a1 a3 = some r) (hsz : ls.size = nL) (hR : 1 ≤ R.frames ∧ 26 ≤ R.locals ∧ cells ≤ R.cells ∧ slots ≤ R.slots) (hst : (rest.map fun v => v.category).sum ≤ 8) (hd : decode cc pc = .ok (.invokevirtual idx, 3)) (kk : W p l e R s m args below meth c H locs cells slots Q (F0 m (pc + 3) ls (.long r :: rest))) : W p l e R s m args below meth c H locs cells slots Q (F0 m pc ls (.int a3 :: .long a1 :: .ref oF :: rest)) := by
  exact vp_callSl (va_Run.run (va_runV (As := [.long a1, .int a3]) (rest := rest) fx (tX1_ahead l hm) (cwV 2 fx.2.2.2.2 (tw_V hq qw_22 qw_23 qw_18 qw_24) rfl rfl rfl (by decide +kernel) ⟨hR.1, hR.2.1⟩) ⟨rdP_bl, va_recv hK hP (ci := 1) (q0 := 0) rfl rfl, rdP_ok hP hK⟩ rfl rfl hsz rfl (lv_room hst) hd ⟨hR.2.2.1, hR.2.2.2⟩)) (fun r9 hr9 => by first | (rw [hr9]; exact kk) | (rw [hr9.1]; exact kk))
-- X1_behind
def mX1_behind (fra : Nat → Int32) (fst : Nat → Int64) (a1 : Int64) (a3 : Int32) : Option Int64 :=
  gd (ib a3 9) (jl (if (fra a3.toNatClampNeg) < 0 then (jlshl a1 (-(fra a3.toNatClampNeg))) else (jlushr a1 (fra a3.toNatClampNeg))) (fun j2 => gd (ib a3 9) ((some (j2 &&& (fst a3.toNatClampNeg))))))
theorem dX1_behind_0 : decode cX1_behind 0 = .ok (.aload_n 0, 1) := by decide +kernel
theorem dX1_behind_1 : decode cX1_behind 1 = .ok (.getfield 11, 3) := by decide +kernel
theorem dX1_behind_4 : decode cX1_behind 4 = .ok (.iload_n 3, 1) := by decide +kernel
theorem dX1_behind_5 : decode cX1_behind 5 = .ok (.iaload, 1) := by decide +kernel
theorem dX1_behind_6 : decode cX1_behind 6 = .ok (.istore 4, 2) := by decide +kernel
theorem dX1_behind_8 : decode cX1_behind 8 = .ok (.iload 4, 2) := by decide +kernel
theorem dX1_behind_10 : decode cX1_behind 10 = .ok (.ifCond .lt 10, 3) := by decide +kernel
theorem dX1_behind_13 : decode cX1_behind 13 = .ok (.lload_n 1, 1) := by decide +kernel
theorem dX1_behind_14 : decode cX1_behind 14 = .ok (.iload 4, 2) := by decide +kernel
theorem dX1_behind_16 : decode cX1_behind 16 = .ok (.lushr, 1) := by decide +kernel
theorem dX1_behind_17 : decode cX1_behind 17 = .ok (.goto 8, 3) := by decide +kernel
theorem dX1_behind_20 : decode cX1_behind 20 = .ok (.lload_n 1, 1) := by decide +kernel
theorem dX1_behind_21 : decode cX1_behind 21 = .ok (.iload 4, 2) := by decide +kernel
theorem dX1_behind_23 : decode cX1_behind 23 = .ok (.ineg, 1) := by decide +kernel
theorem dX1_behind_24 : decode cX1_behind 24 = .ok (.lshl, 1) := by decide +kernel
theorem dX1_behind_25 : decode cX1_behind 25 = .ok (.aload_n 0, 1) := by decide +kernel
theorem dX1_behind_26 : decode cX1_behind 26 = .ok (.getfield 15, 3) := by decide +kernel
theorem dX1_behind_29 : decode cX1_behind 29 = .ok (.iload_n 3, 1) := by decide +kernel
theorem dX1_behind_30 : decode cX1_behind 30 = .ok (.laload, 1) := by decide +kernel
theorem dX1_behind_31 : decode cX1_behind 31 = .ok (.land, 1) := by decide +kernel
theorem dX1_behind_32 : decode cX1_behind 32 = .ok (.lreturn, 1) := by decide +kernel
set_option maxHeartbeats 4000000 in
set_option maxRecDepth 100000 in
theorem bX1_behind {a1 : Int64} {a3 : Int32} {r : Int64} (hx : p.tables.exec = Jvm.exec) (hb : c.code = cX1_behind) (hml : c.maxLocals = 5) (hown : s.vm.findClass RX1 = some m.cls) (hts : ∀ w ∈ tw, w.before args s = true) (hK : va_K D vwCl [(cI, .int), (cJ, .long)] s) (hP : va_P D vwCl (wdF cI cJ oF oFr oFs oFc oFw fw fc fwh fbo fra fst fco fro) H) (hR : 0 ≤ R.frames ∧ 0 ≤ R.locals ∧ cells ≤ R.cells ∧ slots ≤ R.slots) (hm : mX1_behind fra fst a1 a3 = some r) (ls : Array Slot) (hl : lv_has ls 5 [(0, .ref oF), (1, .long a1), (3, .int a3)]) (K : ∀ (pc : Nat) (ls : Array Slot), decode cX1_behind pc = .ok (.lreturn, 1) → W p l e R s m args below meth c H locs cells slots Q (F0 m pc ls [.long r])) : W p l e R s m args below meth c H locs cells slots Q (F0 m 0 ls []) := by
  unfold mX1_behind at hm
  refine lv_aload_n hx hb dX1_behind_0 rfl (lv_at hl 0 rfl) ?_
  refine va_get (D := D) (ci := 1) (v := .ref oFr) (C := RX1) (T := TX1) (N := 8) hx hb hts tnX1 hown hK hP 0 rfl rfl 4 (by decide) (hts _ qw_20) (fun _ h9 => h9) rfl dX1_behind_1 ?_
  refine lv_iload_n hx hb dX1_behind_4 rfl (lv_at hl 2 rfl) ?_
  obtain ⟨g1, hm⟩ := gd_out hm
  refine va_iald hx hb hK hP 1 0 rfl rfl g1 dX1_behind_5 ?_
  refine lv_istore (lv' := [(4, .int (fra a3.toNatClampNeg)), (0, .ref oF), (1, .long a1), (3, .int a3)]) hx hb dX1_behind_6 hl (by decide) rfl (fun ls hl => ?_)
  refine lv_iload hx hb dX1_behind_8 (lv_at hl 0 rfl) ?_
  obtain ⟨j2, hi3, hm⟩ := jl_out hm
  have key4 : ∀ (ls : Array Slot), lv_has ls 5 [(0, .ref oF), (3, .int a3)] → W p l e R s m args below meth c H locs cells slots Q (F0 m 25 ls [.long j2]) := by
    intro ls hl
    refine lv_aload_n hx hb dX1_behind_25 rfl (lv_at hl 0 rfl) ?_
    refine va_get (D := D) (ci := 1) (v := .ref oFs) (C := RX1) (T := TX1) (N := 8) hx hb hts tnX1 hown hK hP 0 rfl rfl 5 (by decide) (hts _ qw_21) (fun _ h9 => h9) rfl dX1_behind_26 ?_
    refine lv_iload_n hx hb dX1_behind_29 rfl (lv_at hl 1 rfl) ?_
    obtain ⟨g6, hm⟩ := gd_out hm
    refine va_lald hx hb hK hP 2 1 rfl rfl g6 dX1_behind_30 ?_
    refine lv_land hx hb dX1_behind_31 ?_
    have hm := Option.some.inj hm
    subst hm
    exact K 32 ls dX1_behind_32
  refine lv_if_lt (tgt := 20) hx hb dX1_behind_10 (by decide) (fun c5 => ?_) (fun c5 => ?_)
  · rw [if_pos c5] at hi3
    refine lv_lload_n hx hb dX1_behind_20 rfl (lv_at hl 2 rfl) ?_
    refine lv_iload hx hb dX1_behind_21 (lv_at hl 0 rfl) ?_
    refine lv_ineg hx hb dX1_behind_23 ?_
    refine lv_lshl (v := (jlshl a1 (-(fra a3.toNatClampNeg)))) hx hb dX1_behind_24 rfl ?_
    rw [hi3] at key4
    exact key4 ls (lv_sub hl [1, 3] rfl)
  · rw [if_neg c5] at hi3
    refine lv_lload_n hx hb dX1_behind_13 rfl (lv_at hl 2 rfl) ?_
    refine lv_iload hx hb dX1_behind_14 (lv_at hl 0 rfl) ?_
    refine lv_lushr (v := (jlushr a1 (fra a3.toNatClampNeg))) hx hb dX1_behind_16 rfl ?_
    refine lv_goto (tgt := 25) hx hb dX1_behind_17 (by decide) ?_
    rw [hi3] at key4
    exact key4 ls (lv_sub hl [1, 3] rfl)
set_option maxHeartbeats 4000000 in
set_option maxRecDepth 100000 in
theorem tX1_behind (l : Launch) {D : va_G} {a1 : Int64} {a3 : Int32} {r : Int64} (hm : mX1_behind fra fst a1 a3 = some r) : Met l yX1_behind (.code yX1_behind cX1_behind 5 (some .long) :: tw) ({ frames := 0, cells := 0, slots := 0, locals := 0 } : Room) (rdP D [.ref oF, .long a1, .int a3] (wdF cI cJ oF oFr oFs oFc oFw fw fc fwh fbo fra fst fco fro) [(cI, .int), (cJ, .long)]) (vp_Sl (fun q => q = r)) 0 0 (fun _ => False) := by
  refine Met.ofW (cc := cX1_behind) (maxL := 5) (ret := (some .long)) (by decide) rfl ?_
  intro p e s m args below meth c s₁ B hml hv
  obtain ⟨rfl, hP, hK⟩ := hv
  have hx := B.exec
  have hb := B.bytes
  have hr := B.returns
  have hts : ∀ w ∈ tw, w.before _ s = true := fun w h => atoms_spec (ws := .code yX1_behind cX1_behind 5 (some .long) :: tw) B.pre w (List.mem_cons_of_mem _ h)
  have hown : s.vm.findClass RX1 = some m.cls := findClass_of_methodNamed B.named
  have hlocks := B.notSynchronized
  have hl := lv_entry ([.ref oF, .long a1, .int a3]) (n := 5) (Nat.le_of_ble_eq_true rfl)
  rw [lg_entry_eq]
  generalize (lg_sl ([.ref oF, .long a1, .int a3]) ++ List.replicate (5 - (lg_sl ([.ref oF, .long a1, .int a3])).length) Slot.unset).toArray = ls at hl ⊢
  refine bX1_behind hx hb hml hown hts hK hP ⟨Nat.le_of_ble_eq_true rfl, Nat.le_of_ble_eq_true rfl, Nat.zero_le _, Nat.zero_le _⟩ hm ls hl (fun pc ls hd => ?_)
  exact W.lret hx hb hr (fun t ht hW => ⟨r, rfl, rfl, ht⟩) (fun q h => by cases h) hd
set_option maxHeartbeats 4000000 in
set_option maxRecDepth 100000 in
theorem kX1_behind {own : String} {cc : ByteArray} {nL idx pc : Nat} {ls : Array Slot} {rest : List Value} {a1 : Int64} {a3 : Int32} {r : Int64} (fx : CallFix p m c cc nL s args tw own) (hq : Cond.methodLink own idx yX1_behind ∈ tw) (hP : va_P D vwCl (wdF cI cJ oF oFr oFs oFc oFw fw fc fwh fbo fra fst fco fro) H) (hK : va_K D vwCl [(cI, .int), (cJ, .long)] s) (hm : mX1_behind fra fst a1 a3 = some r) (hsz : ls.size = nL) (hR : 1 ≤ R.frames ∧ 24 ≤ R.locals ∧ cells ≤ R.cells ∧ slots ≤ R.slots) (hst : (rest.map fun v => v.category).sum ≤ 8) (hd : decode cc pc = .ok (.invokevirtual idx, 3)) (kk : W p l e R s m args below meth c H locs cells slots Q (F0 m (pc + 3) ls (.long r :: rest))) : W p l e R s m args below meth c H locs cells slots Q (F0 m pc ls (.int a3 :: .long a1 :: .ref oF :: rest)) := by
  exact vp_callSl (va_Run.run (va_runV (As := [.long a1, .int a3]) (rest := rest) fx (tX1_behind l hm) (cwV 2 fx.2.2.2.2 (tw_V hq qw_25 qw_26 qw_18 qw_27) rfl rfl rfl (by decide +kernel) ⟨hR.1, hR.2.1⟩) ⟨rdP_bl, va_recv hK hP (ci := 1) (q0 := 0) rfl rfl, rdP_ok hP hK⟩ rfl rfl hsz rfl (lv_room hst) hd ⟨hR.2.2.1, hR.2.2.2⟩)) (fun r9 hr9 => by first | (rw [hr9]; exact kk) | (rw [hr9.1]; exact kk))
-- X1_grown
def mX1_grown_L6 (n : Nat) (v3 : Int32) (fra : Nat → Int32) (fst : Nat → Int64) (v1 : Int64) : Nat → (Int64) → (Int32) → Option ((Int64))
  | 0, _, _ => none
  | k + 1, v4, v6 => (if (9 : Int32) ≤ v6 then some (v4) else jb (if ((v3 >>> (v6 &&& 31)) &&& (1 : Int32)) = 0 then (some (v4)) else jb (mX1_ahead fra fst v1 v6) (fun (r7 : Int64) => (some ((v4 ||| r7))))) (fun (j3 : Int64) => mX1_grown_L6 n v3 fra fst v1 k j3 (v6 + (1 : Int32))))
def mX1_grown (n : Nat) (fra : Nat → Int32) (fst : Nat → Int64) (a1 : Int64) (a3 : Int32) : Option Int64 :=
  jb (mX1_grown_L6 n a3 fra fst a1 n (0 : Int64) (0 : Int32)) (fun (y9 : Int64) => (some y9))
theorem dX1_grown_0 : decode cX1_grown 0 = .ok (.lconst 0, 1) := by decide +kernel
theorem dX1_grown_1 : decode cX1_grown 1 = .ok (.lstore 4, 2) := by decide +kernel
theorem dX1_grown_3 : decode cX1_grown 3 = .ok (.iconst 0, 1) := by decide +kernel
theorem dX1_grown_4 : decode cX1_grown 4 = .ok (.istore 6, 2) := by decide +kernel
theorem dX1_grown_6 : decode cX1_grown 6 = .ok (.iload 6, 2) := by decide +kernel
theorem dX1_grown_8 : decode cX1_grown 8 = .ok (.bipush 9, 2) := by decide +kernel
theorem dX1_grown_10 : decode cX1_grown 10 = .ok (.if_icmp .ge 30, 3) := by decide +kernel
theorem dX1_grown_13 : decode cX1_grown 13 = .ok (.iload_n 3, 1) := by decide +kernel
theorem dX1_grown_14 : decode cX1_grown 14 = .ok (.iload 6, 2) := by decide +kernel
theorem dX1_grown_16 : decode cX1_grown 16 = .ok (.ishr, 1) := by decide +kernel
theorem dX1_grown_17 : decode cX1_grown 17 = .ok (.iconst 1, 1) := by decide +kernel
theorem dX1_grown_18 : decode cX1_grown 18 = .ok (.iand, 1) := by decide +kernel
theorem dX1_grown_19 : decode cX1_grown 19 = .ok (.ifCond .eq 15, 3) := by decide +kernel
theorem dX1_grown_22 : decode cX1_grown 22 = .ok (.lload 4, 2) := by decide +kernel
theorem dX1_grown_24 : decode cX1_grown 24 = .ok (.aload_n 0, 1) := by decide +kernel
theorem dX1_grown_25 : decode cX1_grown 25 = .ok (.lload_n 1, 1) := by decide +kernel
theorem dX1_grown_26 : decode cX1_grown 26 = .ok (.iload 6, 2) := by decide +kernel
theorem dX1_grown_28 : decode cX1_grown 28 = .ok (.invokevirtual 48, 3) := by decide +kernel
theorem dX1_grown_31 : decode cX1_grown 31 = .ok (.lor, 1) := by decide +kernel
theorem dX1_grown_32 : decode cX1_grown 32 = .ok (.lstore 4, 2) := by decide +kernel
theorem dX1_grown_34 : decode cX1_grown 34 = .ok (.iinc 6 1, 3) := by decide +kernel
theorem dX1_grown_37 : decode cX1_grown 37 = .ok (.goto (-31), 3) := by decide +kernel
theorem dX1_grown_40 : decode cX1_grown 40 = .ok (.lload 4, 2) := by decide +kernel
theorem dX1_grown_42 : decode cX1_grown 42 = .ok (.lreturn, 1) := by decide +kernel
set_option maxHeartbeats 4000000 in
set_option maxRecDepth 100000 in
theorem wX1_grown_L6 {n : Nat} {v1 : Int64} {v3 : Int32} (hx : p.tables.exec = Jvm.exec) (hb : c.code = cX1_grown) (hml : c.maxLocals = 7) (hown : s.vm.findClass RX1 = some m.cls) (hts : ∀ w ∈ tw, w.before args s = true) (hK : va_K D vwCl [(cI, .int), (cJ, .long)] s) (hP : va_P D vwCl (wdF cI cJ oF oFr oFs oFc oFw fw fc fwh fbo fra fst fco fro) H) (hR : 1 ≤ R.frames ∧ 26 ≤ R.locals ∧ cells ≤ R.cells ∧ slots ≤ R.slots) : ∀ (k : Nat) (v4 : Int64) (v6 : Int32) (x4 : Int64), mX1_grown_L6 n v3 fra fst v1 k v4 v6 = some (x4) → ∀ ls : Array Slot, lv_has ls 7 [(0, .ref oF), (1, .long v1), (3, .int v3), (4, .long v4), (6, .int v6)] → (∀ ls : Array Slot, lv_has ls 7 [(4, .long x4)] → W p l e R s m args below meth c H locs cells slots Q (F0 m 40 ls [])) → W p l e R s m args below meth c H locs cells slots Q (F0 m 6 ls []) := by
  intro k
  induction k with
  | zero => intro v4 v6 x4 hm; rw [mX1_grown_L6] at hm; cases hm
  | succ k ih =>
    intro v4 v6 x4 hm ls hl K0
    rw [mX1_grown_L6] at hm
    refine lv_iload hx hb dX1_grown_6 (lv_at hl 4 rfl) ?_
    refine lv_bipush (v := (9 : Int32)) hx hb dX1_grown_8 (by decide) ?_
    refine lv_icmp_ge (tgt := 40) hx hb dX1_grown_10 (by decide) (fun c2 => ?_) (fun c2 => ?_)
    · rw [if_pos c2] at hm
      have hm := Option.some.inj hm
      have e9 : x4 = v4 := (congrArg (fun q => q) hm).symm
      rw [e9] at K0
      exact K0 ls (lv_sub hl [3] rfl)
    · rw [if_neg c2] at hm
      refine lv_iload_n hx hb dX1_grown_13 rfl (lv_at hl 2 rfl) ?_
      refine lv_iload hx hb dX1_grown_14 (lv_at hl 4 rfl) ?_
      refine lv_ishr hx hb dX1_grown_16 ?_
      refine lv_iconst (v := (1 : Int32)) hx hb dX1_grown_17 (by decide) ?_
      refine lv_iand hx hb dX1_grown_18 ?_
      obtain ⟨j3, hi4, hm⟩ := jb_out hm
      have key5 : ∀ (ls : Array Slot), lv_has ls 7 [(4, .long j3), (0, .ref oF), (1, .long v1), (3, .int v3), (6, .int v6)] → W p l e R s m args below meth c H locs cells slots Q (F0 m 34 ls []) := by
        intro ls hl
        refine lv_iinc (v := (v6 + (1 : Int32))) (lv' := [(6, .int (v6 + (1 : Int32))), (4, .long j3), (0, .ref oF), (1, .long v1), (3, .int v3)]) hx hb dX1_grown_34 hl (k := 4) rfl (by rfl) (by decide) rfl (fun ls hl => ?_)
        refine lv_goto (tgt := 6) hx hb dX1_grown_37 (by decide) ?_
        exact ih _ _ _ hm ls (lv_sub hl [2, 3, 4, 1, 0] rfl) K0
      refine lv_if_eq (tgt := 34) hx hb dX1_grown_19 (by decide) (fun c6 => ?_) (fun c6 => ?_)
      · rw [if_pos c6] at hi4
        have hi4 := Option.some.inj hi4
        have e9 : j3 = v4 := (congrArg (fun q => q) hi4).symm
        rw [e9] at key5
        exact key5 ls (lv_sub hl [3, 0, 1, 2, 4] rfl)
      · rw [if_neg c6] at hi4
        refine lv_lload hx hb dX1_grown_22 (lv_at hl 3 rfl) ?_
        refine lv_aload_n hx hb dX1_grown_24 rfl (lv_at hl 0 rfl) ?_
        refine lv_lload_n hx hb dX1_grown_25 rfl (lv_at hl 1 rfl) ?_
        refine lv_iload hx hb dX1_grown_26 (lv_at hl 4 rfl) ?_
        obtain ⟨r7, h8, hi4⟩ := jb_out hi4
        refine kX1_ahead ⟨hx, hb, hml, hown, hts⟩ qw_28 hP hK h8 hl.1 ⟨Nat.le_trans (by decide) hR.1, Nat.le_trans (by decide) hR.2.1, hR.2.2⟩ (Nat.le_of_ble_eq_true rfl) dX1_grown_28 ?_
        refine lv_lor hx hb dX1_grown_31 ?_
        refine lv_lstore (lv' := [(4, .long (v4 ||| r7)), (0, .ref oF), (1, .long v1), (3, .int v3), (6, .int v6)]) hx hb dX1_grown_32 hl (by decide) rfl (fun ls hl => ?_)
        have hi4 := Option.some.inj hi4
        have e9 : j3 = (v4 ||| r7) := (congrArg (fun q => q) hi4).symm
        rw [e9] at key5
        exact key5 ls (lv_sub hl [0, 1, 2, 3, 4] rfl)
set_option maxHeartbeats 4000000 in
set_option maxRecDepth 100000 in
theorem bX1_grown {n : Nat} {a1 : Int64} {a3 : Int32} {r : Int64} (hx : p.tables.exec = Jvm.exec) (hb : c.code = cX1_grown) (hml : c.maxLocals = 7) (hown : s.vm.findClass RX1 = some m.cls) (hts : ∀ w ∈ tw, w.before args s = true) (hK : va_K D vwCl [(cI, .int), (cJ, .long)] s) (hP : va_P D vwCl (wdF cI cJ oF oFr oFs oFc oFw fw fc fwh fbo fra fst fco fro) H) (hR : 1 ≤ R.frames ∧ 26 ≤ R.locals ∧ cells ≤ R.cells ∧ slots ≤ R.slots) (hm : mX1_grown n fra fst a1 a3 = some r) (ls : Array Slot) (hl : lv_has ls 7 [(0, .ref oF), (1, .long a1), (3, .int a3)]) (K : ∀ (pc : Nat) (ls : Array Slot), decode cX1_grown pc = .ok (.lreturn, 1) → W p l e R s m args below meth c H locs cells slots Q (F0 m pc ls [.long r])) : W p l e R s m args below meth c H locs cells slots Q (F0 m 0 ls []) := by
  unfold mX1_grown at hm
  refine lv_lconst (v := (0 : Int64)) hx hb dX1_grown_0 (by decide) ?_
  refine lv_lstore (lv' := [(4, .long (0 : Int64)), (0, .ref oF), (1, .long a1), (3, .int a3)]) hx hb dX1_grown_1 hl (by decide) rfl (fun ls hl => ?_)
  refine lv_iconst (v := (0 : Int32)) hx hb dX1_grown_3 (by decide) ?_
  refine lv_istore (lv' := [(6, .int (0 : Int32)), (4, .long (0 : Int64)), (0, .ref oF), (1, .long a1), (3, .int a3)]) hx hb dX1_grown_4 hl (by decide) rfl (fun ls hl => ?_)
  obtain ⟨y9, h10, hm⟩ := jb_out hm
  refine wX1_grown_L6 hx hb hml hown hts hK hP hR n _ _ _  h10 ls (lv_sub hl [2, 3, 4, 1, 0] rfl) (fun ls hl => ?_)
  refine lv_lload hx hb dX1_grown_40 (lv_at hl 0 rfl) ?_
  have hm := Option.some.inj hm
  subst hm
  exact K 42 ls dX1_grown_42
set_option maxHeartbeats 4000000 in
set_option maxRecDepth 100000 in
theorem tX1_grown (l : Launch) {D : va_G} {n : Nat} {a1 : Int64} {a3 : Int32} {r : Int64} (hm : mX1_grown n fra fst a1 a3 = some r) : Met l yX1_grown (.code yX1_grown cX1_grown 7 (some .long) :: tw) ({ frames := 1, cells := 0, slots := 0, locals := 26 } : Room) (rdP D [.ref oF, .long a1, .int a3] (wdF cI cJ oF oFr oFs oFc oFw fw fc fwh fbo fra fst fco fro) [(cI, .int), (cJ, .long)]) (vp_Sl (fun q => q = r)) 0 0 (fun _ => False) := by
  refine Met.ofW (cc := cX1_grown) (maxL := 7) (ret := (some .long)) (by decide) rfl ?_
  intro p e s m args below meth c s₁ B hml hv
  obtain ⟨rfl, hP, hK⟩ := hv
  have hx := B.exec
  have hb := B.bytes
  have hr := B.returns
  have hts : ∀ w ∈ tw, w.before _ s = true := fun w h => atoms_spec (ws := .code yX1_grown cX1_grown 7 (some .long) :: tw) B.pre w (List.mem_cons_of_mem _ h)
  have hown : s.vm.findClass RX1 = some m.cls := findClass_of_methodNamed B.named
  have hlocks := B.notSynchronized
  have hl := lv_entry ([.ref oF, .long a1, .int a3]) (n := 7) (Nat.le_of_ble_eq_true rfl)
  rw [lg_entry_eq]
  generalize (lg_sl ([.ref oF, .long a1, .int a3]) ++ List.replicate (7 - (lg_sl ([.ref oF, .long a1, .int a3])).length) Slot.unset).toArray = ls at hl ⊢
  refine bX1_grown hx hb hml hown hts hK hP ⟨Nat.le_of_ble_eq_true rfl, Nat.le_of_ble_eq_true rfl, Nat.zero_le _, Nat.zero_le _⟩ hm ls hl (fun pc ls hd => ?_)
  exact W.lret hx hb hr (fun t ht hW => ⟨r, rfl, rfl, ht⟩) (fun q h => by cases h) hd
set_option maxHeartbeats 4000000 in
set_option maxRecDepth 100000 in
theorem kX1_grown {own : String} {cc : ByteArray} {nL idx pc : Nat} {ls : Array Slot} {rest : List Value} {n : Nat} {a1 : Int64} {a3 : Int32} {r : Int64} (fx : CallFix p m c cc nL s args tw own) (hq : Cond.methodLink own idx yX1_grown ∈ tw) (hP : va_P D vwCl (wdF cI cJ oF oFr oFs oFc oFw fw fc fwh fbo fra fst fco fro) H) (hK : va_K D vwCl [(cI, .int), (cJ, .long)] s) (hm : mX1_grown n fra fst a1 a3 = some r) (hsz : ls.size = nL) (hR : 2 ≤ R.frames ∧ 52 ≤ R.locals ∧ cells ≤ R.cells ∧ slots ≤ R.slots) (hst : (rest.map fun v => v.category).sum ≤ 8) (hd : decode cc pc = .ok (.invokevirtual idx, 3)) (kk : W p l e R s m args below meth c H locs cells slots Q (F0 m (pc + 3) ls (.long r :: rest))) : W p l e R s m args below meth c H locs cells slots Q (F0 m pc ls (.int a3 :: .long a1 :: .ref oF :: rest)) := by
  exact vp_callSl (va_Run.run (va_runV (As := [.long a1, .int a3]) (rest := rest) fx (tX1_grown l hm) (cwV 2 fx.2.2.2.2 (tw_V hq qw_29 qw_30 qw_18 qw_31) rfl rfl rfl (by decide +kernel) ⟨hR.1, hR.2.1⟩) ⟨rdP_bl, va_recv hK hP (ci := 1) (q0 := 0) rfl rfl, rdP_ok hP hK⟩ rfl rfl hsz rfl (lv_room hst) hd ⟨hR.2.2.1, hR.2.2.2⟩)) (fun r9 hr9 => by first | (rw [hr9]; exact kk) | (rw [hr9.1]; exact kk))
-- X1_worn
def mX1_worn_L9 (n : Nat) (v3 : Int32) (fra : Nat → Int32) (fst : Nat → Int64) (v1 : Int64) (v4 : Int32) : Nat → (Int64) → (Int32) → Option ((Int64))
  | 0, _, _ => none
  | k + 1, v5, v7 => (if (9 : Int32) ≤ v7 then some (v5) else jb (if ((v3 >>> (v7 &&& 31)) &&& (1 : Int32)) = 0 then (some (v5)) else jb (mX1_behind fra fst v1 v7) (fun (r7 : Int64) => jb (if v4 = 0 then (some ((0 : Int64))) else gd (ib v7 9) ((some (((fst v7.toNatClampNeg) ^^^ (-1 : Int64)))))) (fun (j9 : Int64) => (some ((v5 &&& (r7 ||| j9))))))) (fun (j3 : Int64) => mX1_worn_L9 n v3 fra fst v1 v4 k j3 (v7 + (1 : Int32))))
def mX1_worn (n : Nat) (fra : Nat → Int32) (fst : Nat → Int64) (fwh : Int64) (a1 : Int64) (a3 : Int32) (a4 : Int32) : Option Int64 :=
  jb (mX1_worn_L9 n a3 fra fst a1 a4 n fwh (0 : Int32)) (fun (y14 : Int64) => (some y14))
theorem dX1_worn_0 : decode cX1_worn 0 = .ok (.aload_n 0, 1) := by decide +kernel
theorem dX1_worn_1 : decode cX1_worn 1 = .ok (.getfield 36, 3) := by decide +kernel
theorem dX1_worn_4 : decode cX1_worn 4 = .ok (.lstore 5, 2) := by decide +kernel
theorem dX1_worn_6 : decode cX1_worn 6 = .ok (.iconst 0, 1) := by decide +kernel
theorem dX1_worn_7 : decode cX1_worn 7 = .ok (.istore 7, 2) := by decide +kernel
theorem dX1_worn_9 : decode cX1_worn 9 = .ok (.iload 7, 2) := by decide +kernel
theorem dX1_worn_11 : decode cX1_worn 11 = .ok (.bipush 9, 2) := by decide +kernel
theorem dX1_worn_13 : decode cX1_worn 13 = .ok (.if_icmp .ge 51, 3) := by decide +kernel
theorem dX1_worn_16 : decode cX1_worn 16 = .ok (.iload_n 3, 1) := by decide +kernel
theorem dX1_worn_17 : decode cX1_worn 17 = .ok (.iload 7, 2) := by decide +kernel
theorem dX1_worn_19 : decode cX1_worn 19 = .ok (.ishr, 1) := by decide +kernel
theorem dX1_worn_20 : decode cX1_worn 20 = .ok (.iconst 1, 1) := by decide +kernel
theorem dX1_worn_21 : decode cX1_worn 21 = .ok (.iand, 1) := by decide +kernel
theorem dX1_worn_22 : decode cX1_worn 22 = .ok (.ifCond .eq 36, 3) := by decide +kernel
theorem dX1_worn_25 : decode cX1_worn 25 = .ok (.lload 5, 2) := by decide +kernel
theorem dX1_worn_27 : decode cX1_worn 27 = .ok (.aload_n 0, 1) := by decide +kernel
theorem dX1_worn_28 : decode cX1_worn 28 = .ok (.lload_n 1, 1) := by decide +kernel
theorem dX1_worn_29 : decode cX1_worn 29 = .ok (.iload 7, 2) := by decide +kernel
theorem dX1_worn_31 : decode cX1_worn 31 = .ok (.invokevirtual 52, 3) := by decide +kernel
theorem dX1_worn_34 : decode cX1_worn 34 = .ok (.iload 4, 2) := by decide +kernel
theorem dX1_worn_36 : decode cX1_worn 36 = .ok (.ifCond .eq 17, 3) := by decide +kernel
theorem dX1_worn_39 : decode cX1_worn 39 = .ok (.aload_n 0, 1) := by decide +kernel
theorem dX1_worn_40 : decode cX1_worn 40 = .ok (.getfield 15, 3) := by decide +kernel
theorem dX1_worn_43 : decode cX1_worn 43 = .ok (.iload 7, 2) := by decide +kernel
theorem dX1_worn_45 : decode cX1_worn 45 = .ok (.laload, 1) := by decide +kernel
theorem dX1_worn_46 : decode cX1_worn 46 = .ok (.ldc2_w 46, 3) := by decide +kernel
theorem dX1_worn_49 : decode cX1_worn 49 = .ok (.lxor, 1) := by decide +kernel
theorem dX1_worn_50 : decode cX1_worn 50 = .ok (.goto 4, 3) := by decide +kernel
theorem dX1_worn_53 : decode cX1_worn 53 = .ok (.lconst 0, 1) := by decide +kernel
theorem dX1_worn_54 : decode cX1_worn 54 = .ok (.lor, 1) := by decide +kernel
theorem dX1_worn_55 : decode cX1_worn 55 = .ok (.land, 1) := by decide +kernel
theorem dX1_worn_56 : decode cX1_worn 56 = .ok (.lstore 5, 2) := by decide +kernel
theorem dX1_worn_58 : decode cX1_worn 58 = .ok (.iinc 7 1, 3) := by decide +kernel
theorem dX1_worn_61 : decode cX1_worn 61 = .ok (.goto (-52), 3) := by decide +kernel
theorem dX1_worn_64 : decode cX1_worn 64 = .ok (.lload 5, 2) := by decide +kernel
theorem dX1_worn_66 : decode cX1_worn 66 = .ok (.lreturn, 1) := by decide +kernel
set_option maxHeartbeats 4000000 in
set_option maxRecDepth 100000 in
theorem wX1_worn_L9 {n : Nat} {v1 : Int64} {v3 : Int32} {v4 : Int32} (hx : p.tables.exec = Jvm.exec) (hb : c.code = cX1_worn) (hml : c.maxLocals = 8) (hown : s.vm.findClass RX1 = some m.cls) (hts : ∀ w ∈ tw, w.before args s = true) (hK : va_K D vwCl [(cI, .int), (cJ, .long)] s) (hP : va_P D vwCl (wdF cI cJ oF oFr oFs oFc oFw fw fc fwh fbo fra fst fco fro) H) (hR : 1 ≤ R.frames ∧ 24 ≤ R.locals ∧ cells ≤ R.cells ∧ slots ≤ R.slots) : ∀ (k : Nat) (v5 : Int64) (v7 : Int32) (x5 : Int64), mX1_worn_L9 n v3 fra fst v1 v4 k v5 v7 = some (x5) → ∀ ls : Array Slot, lv_has ls 8 [(0, .ref oF), (1, .long v1), (3, .int v3), (4, .int v4), (5, .long v5), (7, .int v7)] → (∀ ls : Array Slot, lv_has ls 8 [(5, .long x5)] → W p l e R s m args below meth c H locs cells slots Q (F0 m 64 ls [])) → W p l e R s m args below meth c H locs cells slots Q (F0 m 9 ls []) := by
  intro k
  induction k with
  | zero => intro v5 v7 x5 hm; rw [mX1_worn_L9] at hm; cases hm
  | succ k ih =>
    intro v5 v7 x5 hm ls hl K0
    rw [mX1_worn_L9] at hm
    refine lv_iload hx hb dX1_worn_9 (lv_at hl 5 rfl) ?_
    refine lv_bipush (v := (9 : Int32)) hx hb dX1_worn_11 (by decide) ?_
    refine lv_icmp_ge (tgt := 64) hx hb dX1_worn_13 (by decide) (fun c2 => ?_) (fun c2 => ?_)
    · rw [if_pos c2] at hm
      have hm := Option.some.inj hm
      have e9 : x5 = v5 := (congrArg (fun q => q) hm).symm
      rw [e9] at K0
      exact K0 ls (lv_sub hl [4] rfl)
    · rw [if_neg c2] at hm
      refine lv_iload_n hx hb dX1_worn_16 rfl (lv_at hl 2 rfl) ?_
      refine lv_iload hx hb dX1_worn_17 (lv_at hl 5 rfl) ?_
      refine lv_ishr hx hb dX1_worn_19 ?_
      refine lv_iconst (v := (1 : Int32)) hx hb dX1_worn_20 (by decide) ?_
      refine lv_iand hx hb dX1_worn_21 ?_
      obtain ⟨j3, hi4, hm⟩ := jb_out hm
      have key5 : ∀ (ls : Array Slot), lv_has ls 8 [(5, .long j3), (0, .ref oF), (1, .long v1), (3, .int v3), (4, .int v4), (7, .int v7)] → W p l e R s m args below meth c H locs cells slots Q (F0 m 58 ls []) := by
        intro ls hl
        refine lv_iinc (v := (v7 + (1 : Int32))) (lv' := [(7, .int (v7 + (1 : Int32))), (5, .long j3), (0, .ref oF), (1, .long v1), (3, .int v3), (4, .int v4)]) hx hb dX1_worn_58 hl (k := 5) rfl (by rfl) (by decide) rfl (fun ls hl => ?_)
        refine lv_goto (tgt := 9) hx hb dX1_worn_61 (by decide) ?_
        exact ih _ _ _ hm ls (lv_sub hl [2, 3, 4, 5, 1, 0] rfl) K0
      refine lv_if_eq (tgt := 58) hx hb dX1_worn_22 (by decide) (fun c6 => ?_) (fun c6 => ?_)
      · rw [if_pos c6] at hi4
        have hi4 := Option.some.inj hi4
        have e9 : j3 = v5 := (congrArg (fun q => q) hi4).symm
        rw [e9] at key5
        exact key5 ls (lv_sub hl [4, 0, 1, 2, 3, 5] rfl)
      · rw [if_neg c6] at hi4
        refine lv_lload hx hb dX1_worn_25 (lv_at hl 4 rfl) ?_
        refine lv_aload_n hx hb dX1_worn_27 rfl (lv_at hl 0 rfl) ?_
        refine lv_lload_n hx hb dX1_worn_28 rfl (lv_at hl 1 rfl) ?_
        refine lv_iload hx hb dX1_worn_29 (lv_at hl 5 rfl) ?_
        obtain ⟨r7, h8, hi4⟩ := jb_out hi4
        refine kX1_behind ⟨hx, hb, hml, hown, hts⟩ qw_33 hP hK h8 hl.1 ⟨Nat.le_trans (by decide) hR.1, Nat.le_trans (by decide) hR.2.1, hR.2.2⟩ (Nat.le_of_ble_eq_true rfl) dX1_worn_31 ?_
        refine lv_iload hx hb dX1_worn_34 (lv_at hl 3 rfl) ?_
        obtain ⟨j9, hi10, hi4⟩ := jb_out hi4
        have key11 : ∀ (ls : Array Slot), lv_has ls 8 [(0, .ref oF), (1, .long v1), (3, .int v3), (4, .int v4), (7, .int v7)] → W p l e R s m args below meth c H locs cells slots Q (F0 m 54 ls [.long j9, .long r7, .long v5]) := by
          intro ls hl
          refine lv_lor hx hb dX1_worn_54 ?_
          refine lv_land hx hb dX1_worn_55 ?_
          refine lv_lstore (lv' := [(5, .long (v5 &&& (r7 ||| j9))), (0, .ref oF), (1, .long v1), (3, .int v3), (4, .int v4), (7, .int v7)]) hx hb dX1_worn_56 hl (by decide) rfl (fun ls hl => ?_)
          have hi4 := Option.some.inj hi4
          have e9 : j3 = (v5 &&& (r7 ||| j9)) := (congrArg (fun q => q) hi4).symm
          rw [e9] at key5
          exact key5 ls (lv_sub hl [0, 1, 2, 3, 4, 5] rfl)
        refine lv_if_eq (tgt := 53) hx hb dX1_worn_36 (by decide) (fun c12 => ?_) (fun c12 => ?_)
        · rw [if_pos c12] at hi10
          refine lv_lconst (v := (0 : Int64)) hx hb dX1_worn_53 (by decide) ?_
          have hi10 := Option.some.inj hi10
          have e9 : j9 = (0 : Int64) := (congrArg (fun q => q) hi10).symm
          rw [e9] at key11
          exact key11 ls (lv_sub hl [0, 1, 2, 3, 5] rfl)
        · rw [if_neg c12] at hi10
          refine lv_aload_n hx hb dX1_worn_39 rfl (lv_at hl 0 rfl) ?_
          refine va_get (D := D) (ci := 1) (v := .ref oFs) (C := RX1) (T := TX1) (N := 8) hx hb hts tnX1 hown hK hP 0 rfl rfl 5 (by decide) (hts _ qw_21) (fun _ h9 => h9) rfl dX1_worn_40 ?_
          refine lv_iload hx hb dX1_worn_43 (lv_at hl 5 rfl) ?_
          obtain ⟨g13, hi10⟩ := gd_out hi10
          refine va_lald hx hb hK hP 2 1 rfl rfl g13 dX1_worn_45 ?_
          refine lv_ldc2 (v := (-1 : Int64)) hx hb hown (hts _ qw_34) dX1_worn_46 ?_
          refine lv_lxor hx hb dX1_worn_49 ?_
          refine lv_goto (tgt := 54) hx hb dX1_worn_50 (by decide) ?_
          have hi10 := Option.some.inj hi10
          have e9 : j9 = ((fst v7.toNatClampNeg) ^^^ (-1 : Int64)) := (congrArg (fun q => q) hi10).symm
          rw [e9] at key11
          exact key11 ls (lv_sub hl [0, 1, 2, 3, 5] rfl)
set_option maxHeartbeats 4000000 in
set_option maxRecDepth 100000 in
theorem bX1_worn {n : Nat} {a1 : Int64} {a3 : Int32} {a4 : Int32} {r : Int64} (hx : p.tables.exec = Jvm.exec) (hb : c.code = cX1_worn) (hml : c.maxLocals = 8) (hown : s.vm.findClass RX1 = some m.cls) (hts : ∀ w ∈ tw, w.before args s = true) (hK : va_K D vwCl [(cI, .int), (cJ, .long)] s) (hP : va_P D vwCl (wdF cI cJ oF oFr oFs oFc oFw fw fc fwh fbo fra fst fco fro) H) (hR : 1 ≤ R.frames ∧ 24 ≤ R.locals ∧ cells ≤ R.cells ∧ slots ≤ R.slots) (hm : mX1_worn n fra fst fwh a1 a3 a4 = some r) (ls : Array Slot) (hl : lv_has ls 8 [(0, .ref oF), (1, .long a1), (3, .int a3), (4, .int a4)]) (K : ∀ (pc : Nat) (ls : Array Slot), decode cX1_worn pc = .ok (.lreturn, 1) → W p l e R s m args below meth c H locs cells slots Q (F0 m pc ls [.long r])) : W p l e R s m args below meth c H locs cells slots Q (F0 m 0 ls []) := by
  unfold mX1_worn at hm
  refine lv_aload_n hx hb dX1_worn_0 rfl (lv_at hl 0 rfl) ?_
  refine va_get (D := D) (ci := 1) (v := .long fwh) (C := RX1) (T := TX1) (N := 8) hx hb hts tnX1 hown hK hP 0 rfl rfl 2 (by decide) (hts _ qw_32) (fun _ h9 => h9) rfl dX1_worn_1 ?_
  refine lv_lstore (lv' := [(5, .long fwh), (0, .ref oF), (1, .long a1), (3, .int a3), (4, .int a4)]) hx hb dX1_worn_4 hl (by decide) rfl (fun ls hl => ?_)
  refine lv_iconst (v := (0 : Int32)) hx hb dX1_worn_6 (by decide) ?_
  refine lv_istore (lv' := [(7, .int (0 : Int32)), (5, .long fwh), (0, .ref oF), (1, .long a1), (3, .int a3), (4, .int a4)]) hx hb dX1_worn_7 hl (by decide) rfl (fun ls hl => ?_)
  obtain ⟨y14, h15, hm⟩ := jb_out hm
  refine wX1_worn_L9 hx hb hml hown hts hK hP hR n _ _ _  h15 ls (lv_sub hl [2, 3, 4, 5, 1, 0] rfl) (fun ls hl => ?_)
  refine lv_lload hx hb dX1_worn_64 (lv_at hl 0 rfl) ?_
  have hm := Option.some.inj hm
  subst hm
  exact K 66 ls dX1_worn_66
set_option maxHeartbeats 4000000 in
set_option maxRecDepth 100000 in
theorem tX1_worn (l : Launch) {D : va_G} {n : Nat} {a1 : Int64} {a3 : Int32} {a4 : Int32} {r : Int64} (hm : mX1_worn n fra fst fwh a1 a3 a4 = some r) : Met l yX1_worn (.code yX1_worn cX1_worn 8 (some .long) :: tw) ({ frames := 1, cells := 0, slots := 0, locals := 24 } : Room) (rdP D [.ref oF, .long a1, .int a3, .int a4] (wdF cI cJ oF oFr oFs oFc oFw fw fc fwh fbo fra fst fco fro) [(cI, .int), (cJ, .long)]) (vp_Sl (fun q => q = r)) 0 0 (fun _ => False) := by
  refine Met.ofW (cc := cX1_worn) (maxL := 8) (ret := (some .long)) (by decide) rfl ?_
  intro p e s m args below meth c s₁ B hml hv
  obtain ⟨rfl, hP, hK⟩ := hv
  have hx := B.exec
  have hb := B.bytes
  have hr := B.returns
  have hts : ∀ w ∈ tw, w.before _ s = true := fun w h => atoms_spec (ws := .code yX1_worn cX1_worn 8 (some .long) :: tw) B.pre w (List.mem_cons_of_mem _ h)
  have hown : s.vm.findClass RX1 = some m.cls := findClass_of_methodNamed B.named
  have hlocks := B.notSynchronized
  have hl := lv_entry ([.ref oF, .long a1, .int a3, .int a4]) (n := 8) (Nat.le_of_ble_eq_true rfl)
  rw [lg_entry_eq]
  generalize (lg_sl ([.ref oF, .long a1, .int a3, .int a4]) ++ List.replicate (8 - (lg_sl ([.ref oF, .long a1, .int a3, .int a4])).length) Slot.unset).toArray = ls at hl ⊢
  refine bX1_worn hx hb hml hown hts hK hP ⟨Nat.le_of_ble_eq_true rfl, Nat.le_of_ble_eq_true rfl, Nat.zero_le _, Nat.zero_le _⟩ hm ls hl (fun pc ls hd => ?_)
  exact W.lret hx hb hr (fun t ht hW => ⟨r, rfl, rfl, ht⟩) (fun q h => by cases h) hd
set_option maxHeartbeats 4000000 in
set_option maxRecDepth 100000 in
theorem kX1_worn {own : String} {cc : ByteArray} {nL idx pc : Nat} {ls : Array Slot} {rest : List Value} {n : Nat} {a1 : Int64} {a3 : Int32} {a4 : Int32} {r : Int64} (fx : CallFix p m c cc nL s args tw own) (hq : Cond.methodLink own idx yX1_worn ∈ tw) (hP : va_P D vwCl (wdF cI cJ oF oFr oFs oFc oFw fw fc fwh fbo fra fst fco fro) H) (hK : va_K D vwCl [(cI, .int), (cJ, .long)] s) (hm : mX1_worn n fra fst fwh a1 a3 a4 = some r) (hsz : ls.size = nL) (hR : 2 ≤ R.frames ∧ 51 ≤ R.locals ∧ cells ≤ R.cells ∧ slots ≤ R.slots) (hst : (rest.map fun v => v.category).sum ≤ 8) (hd : decode cc pc = .ok (.invokevirtual idx, 3)) (kk : W p l e R s m args below meth c H locs cells slots Q (F0 m (pc + 3) ls (.long r :: rest))) : W p l e R s m args below meth c H locs cells slots Q (F0 m pc ls (.int a4 :: .int a3 :: .long a1 :: .ref oF :: rest)) := by
  exact vp_callSl (va_Run.run (va_runV (As := [.long a1, .int a3, .int a4]) (rest := rest) fx (tX1_worn l hm) (cwV 3 fx.2.2.2.2 (tw_V hq qw_35 qw_36 qw_18 qw_37) rfl rfl rfl (by decide +kernel) ⟨hR.1, hR.2.1⟩) ⟨rdP_bl, va_recv hK hP (ci := 1) (q0 := 0) rfl rfl, rdP_ok hP hK⟩ rfl rfl hsz rfl (lv_room hst) hd ⟨hR.2.2.1, hR.2.2.2⟩)) (fun r9 hr9 => by first | (rw [hr9]; exact kk) | (rw [hr9.1]; exact kk))
-- X1_rectangle
def mX1_rectangle_L59 (n : Nat) (v4 : Int32) (v5 : Int64) (fw : Int32) : Nat → (Int64) → (Int32) → Option ((Int64))
  | 0, _, _ => none
  | k + 1, v7, v9 => (if v4 ≤ v9 then some (v7) else mX1_rectangle_L59 n v4 v5 fw k (v7 ||| (jlshl v5 (v9 * fw))) (v9 + (1 : Int32)))
def mX1_rectangle (n : Nat) (fco : Nat → Int32) (fro : Nat → Int32) (fw : Int32) (a1 : Int32) (a2 : Int32) : Option Int64 :=
  gd (ib a2 49) (gd (ib a1 49) (gd (ib a2 49) (gd (ib a1 49) ((if (((fco a2.toNatClampNeg) - (fco a1.toNatClampNeg)) + (1 : Int32)) ≤ 0 then (some (0 : Int64)) else (if 0 < (((fro a2.toNatClampNeg) - (fro a1.toNatClampNeg)) + (1 : Int32)) then jb (mX1_rectangle_L59 n (((fro a2.toNatClampNeg) - (fro a1.toNatClampNeg)) + (1 : Int32)) (jlshl ((jlshl (1 : Int64) (((fco a2.toNatClampNeg) - (fco a1.toNatClampNeg)) + (1 : Int32))) - (1 : Int64)) a1) fw n (0 : Int64) (0 : Int32)) (fun (y9 : Int64) => (some y9)) else (some (0 : Int64))))))))
theorem dX1_rectangle_0 : decode cX1_rectangle 0 = .ok (.aload_n 0, 1) := by decide +kernel
theorem dX1_rectangle_1 : decode cX1_rectangle 1 = .ok (.getfield 19, 3) := by decide +kernel
theorem dX1_rectangle_4 : decode cX1_rectangle 4 = .ok (.iload_n 2, 1) := by decide +kernel
theorem dX1_rectangle_5 : decode cX1_rectangle 5 = .ok (.iaload, 1) := by decide +kernel
theorem dX1_rectangle_6 : decode cX1_rectangle 6 = .ok (.aload_n 0, 1) := by decide +kernel
theorem dX1_rectangle_7 : decode cX1_rectangle 7 = .ok (.getfield 19, 3) := by decide +kernel
theorem dX1_rectangle_10 : decode cX1_rectangle 10 = .ok (.iload_n 1, 1) := by decide +kernel
theorem dX1_rectangle_11 : decode cX1_rectangle 11 = .ok (.iaload, 1) := by decide +kernel
theorem dX1_rectangle_12 : decode cX1_rectangle 12 = .ok (.isub, 1) := by decide +kernel
theorem dX1_rectangle_13 : decode cX1_rectangle 13 = .ok (.iconst 1, 1) := by decide +kernel
theorem dX1_rectangle_14 : decode cX1_rectangle 14 = .ok (.iadd, 1) := by decide +kernel
theorem dX1_rectangle_15 : decode cX1_rectangle 15 = .ok (.istore_n 3, 1) := by decide +kernel
theorem dX1_rectangle_16 : decode cX1_rectangle 16 = .ok (.aload_n 0, 1) := by decide +kernel
theorem dX1_rectangle_17 : decode cX1_rectangle 17 = .ok (.getfield 22, 3) := by decide +kernel
theorem dX1_rectangle_20 : decode cX1_rectangle 20 = .ok (.iload_n 2, 1) := by decide +kernel
theorem dX1_rectangle_21 : decode cX1_rectangle 21 = .ok (.iaload, 1) := by decide +kernel
theorem dX1_rectangle_22 : decode cX1_rectangle 22 = .ok (.aload_n 0, 1) := by decide +kernel
theorem dX1_rectangle_23 : decode cX1_rectangle 23 = .ok (.getfield 22, 3) := by decide +kernel
theorem dX1_rectangle_26 : decode cX1_rectangle 26 = .ok (.iload_n 1, 1) := by decide +kernel
theorem dX1_rectangle_27 : decode cX1_rectangle 27 = .ok (.iaload, 1) := by decide +kernel
theorem dX1_rectangle_28 : decode cX1_rectangle 28 = .ok (.isub, 1) := by decide +kernel
theorem dX1_rectangle_29 : decode cX1_rectangle 29 = .ok (.iconst 1, 1) := by decide +kernel
theorem dX1_rectangle_30 : decode cX1_rectangle 30 = .ok (.iadd, 1) := by decide +kernel
theorem dX1_rectangle_31 : decode cX1_rectangle 31 = .ok (.istore 4, 2) := by decide +kernel
theorem dX1_rectangle_33 : decode cX1_rectangle 33 = .ok (.iload_n 3, 1) := by decide +kernel
theorem dX1_rectangle_34 : decode cX1_rectangle 34 = .ok (.ifCond .le 8, 3) := by decide +kernel
theorem dX1_rectangle_37 : decode cX1_rectangle 37 = .ok (.iload 4, 2) := by decide +kernel
theorem dX1_rectangle_39 : decode cX1_rectangle 39 = .ok (.ifCond .gt 5, 3) := by decide +kernel
theorem dX1_rectangle_42 : decode cX1_rectangle 42 = .ok (.lconst 0, 1) := by decide +kernel
theorem dX1_rectangle_43 : decode cX1_rectangle 43 = .ok (.lreturn, 1) := by decide +kernel
theorem dX1_rectangle_44 : decode cX1_rectangle 44 = .ok (.lconst 1, 1) := by decide +kernel
theorem dX1_rectangle_45 : decode cX1_rectangle 45 = .ok (.iload_n 3, 1) := by decide +kernel
theorem dX1_rectangle_46 : decode cX1_rectangle 46 = .ok (.lshl, 1) := by decide +kernel
theorem dX1_rectangle_47 : decode cX1_rectangle 47 = .ok (.lconst 1, 1) := by decide +kernel
theorem dX1_rectangle_48 : decode cX1_rectangle 48 = .ok (.lsub, 1) := by decide +kernel
theorem dX1_rectangle_49 : decode cX1_rectangle 49 = .ok (.iload_n 1, 1) := by decide +kernel
theorem dX1_rectangle_50 : decode cX1_rectangle 50 = .ok (.lshl, 1) := by decide +kernel
theorem dX1_rectangle_51 : decode cX1_rectangle 51 = .ok (.lstore 5, 2) := by decide +kernel
theorem dX1_rectangle_53 : decode cX1_rectangle 53 = .ok (.lconst 0, 1) := by decide +kernel
theorem dX1_rectangle_54 : decode cX1_rectangle 54 = .ok (.lstore 7, 2) := by decide +kernel
theorem dX1_rectangle_56 : decode cX1_rectangle 56 = .ok (.iconst 0, 1) := by decide +kernel
theorem dX1_rectangle_57 : decode cX1_rectangle 57 = .ok (.istore 9, 2) := by decide +kernel
theorem dX1_rectangle_59 : decode cX1_rectangle 59 = .ok (.iload 9, 2) := by decide +kernel
theorem dX1_rectangle_61 : decode cX1_rectangle 61 = .ok (.iload 4, 2) := by decide +kernel
theorem dX1_rectangle_63 : decode cX1_rectangle 63 = .ok (.if_icmp .ge 24, 3) := by decide +kernel
theorem dX1_rectangle_66 : decode cX1_rectangle 66 = .ok (.lload 7, 2) := by decide +kernel
theorem dX1_rectangle_68 : decode cX1_rectangle 68 = .ok (.lload 5, 2) := by decide +kernel
theorem dX1_rectangle_70 : decode cX1_rectangle 70 = .ok (.iload 9, 2) := by decide +kernel
theorem dX1_rectangle_72 : decode cX1_rectangle 72 = .ok (.aload_n 0, 1) := by decide +kernel
theorem dX1_rectangle_73 : decode cX1_rectangle 73 = .ok (.getfield 29, 3) := by decide +kernel
theorem dX1_rectangle_76 : decode cX1_rectangle 76 = .ok (.imul, 1) := by decide +kernel
theorem dX1_rectangle_77 : decode cX1_rectangle 77 = .ok (.lshl, 1) := by decide +kernel
theorem dX1_rectangle_78 : decode cX1_rectangle 78 = .ok (.lor, 1) := by decide +kernel
theorem dX1_rectangle_79 : decode cX1_rectangle 79 = .ok (.lstore 7, 2) := by decide +kernel
theorem dX1_rectangle_81 : decode cX1_rectangle 81 = .ok (.iinc 9 1, 3) := by decide +kernel
theorem dX1_rectangle_84 : decode cX1_rectangle 84 = .ok (.goto (-25), 3) := by decide +kernel
theorem dX1_rectangle_87 : decode cX1_rectangle 87 = .ok (.lload 7, 2) := by decide +kernel
theorem dX1_rectangle_89 : decode cX1_rectangle 89 = .ok (.lreturn, 1) := by decide +kernel
set_option maxHeartbeats 4000000 in
set_option maxRecDepth 100000 in
theorem wX1_rectangle_L59 {n : Nat} {v4 : Int32} {v5 : Int64} (hx : p.tables.exec = Jvm.exec) (hb : c.code = cX1_rectangle) (hml : c.maxLocals = 10) (hown : s.vm.findClass RX1 = some m.cls) (hts : ∀ w ∈ tw, w.before args s = true) (hK : va_K D vwCl [(cI, .int), (cJ, .long)] s) (hP : va_P D vwCl (wdF cI cJ oF oFr oFs oFc oFw fw fc fwh fbo fra fst fco fro) H) (hR : 0 ≤ R.frames ∧ 0 ≤ R.locals ∧ cells ≤ R.cells ∧ slots ≤ R.slots) : ∀ (k : Nat) (v7 : Int64) (v9 : Int32) (x7 : Int64), mX1_rectangle_L59 n v4 v5 fw k v7 v9 = some (x7) → ∀ ls : Array Slot, lv_has ls 10 [(0, .ref oF), (4, .int v4), (5, .long v5), (7, .long v7), (9, .int v9)] → (∀ ls : Array Slot, lv_has ls 10 [(7, .long x7)] → W p l e R s m args below meth c H locs cells slots Q (F0 m 87 ls [])) → W p l e R s m args below meth c H locs cells slots Q (F0 m 59 ls []) := by
  intro k
  induction k with
  | zero => intro v7 v9 x7 hm; rw [mX1_rectangle_L59] at hm; cases hm
  | succ k ih =>
    intro v7 v9 x7 hm ls hl K0
    rw [mX1_rectangle_L59] at hm
    refine lv_iload hx hb dX1_rectangle_59 (lv_at hl 4 rfl) ?_
    refine lv_iload hx hb dX1_rectangle_61 (lv_at hl 1 rfl) ?_
    refine lv_icmp_ge (tgt := 87) hx hb dX1_rectangle_63 (by decide) (fun c8 => ?_) (fun c8 => ?_)
    · rw [if_pos c8] at hm
      have hm := Option.some.inj hm
      have e9 : x7 = v7 := (congrArg (fun q => q) hm).symm
      rw [e9] at K0
      exact K0 ls (lv_sub hl [3] rfl)
    · rw [if_neg c8] at hm
      refine lv_lload hx hb dX1_rectangle_66 (lv_at hl 3 rfl) ?_
      refine lv_lload hx hb dX1_rectangle_68 (lv_at hl 2 rfl) ?_
      refine lv_iload hx hb dX1_rectangle_70 (lv_at hl 4 rfl) ?_
      refine lv_aload_n hx hb dX1_rectangle_72 rfl (lv_at hl 0 rfl) ?_
      refine va_get (D := D) (ci := 1) (v := .int fw) (C := RX1) (T := TX1) (N := 8) hx hb hts tnX1 hown hK hP 0 rfl rfl 0 (by decide) (hts _ qw_40) (fun _ h9 => h9) rfl dX1_rectangle_73 ?_
      refine lv_imul hx hb dX1_rectangle_76 ?_
      refine lv_lshl (v := (jlshl v5 (v9 * fw))) hx hb dX1_rectangle_77 rfl ?_
      refine lv_lor hx hb dX1_rectangle_78 ?_
      refine lv_lstore (lv' := [(7, .long (v7 ||| (jlshl v5 (v9 * fw)))), (0, .ref oF), (4, .int v4), (5, .long v5), (9, .int v9)]) hx hb dX1_rectangle_79 hl (by decide) rfl (fun ls hl => ?_)
      refine lv_iinc (v := (v9 + (1 : Int32))) (lv' := [(9, .int (v9 + (1 : Int32))), (7, .long (v7 ||| (jlshl v5 (v9 * fw)))), (0, .ref oF), (4, .int v4), (5, .long v5)]) hx hb dX1_rectangle_81 hl (k := 4) rfl (by rfl) (by decide) rfl (fun ls hl => ?_)
      refine lv_goto (tgt := 59) hx hb dX1_rectangle_84 (by decide) ?_
      exact ih _ _ _ hm ls (lv_sub hl [2, 3, 4, 1, 0] rfl) K0
set_option maxHeartbeats 4000000 in
set_option maxRecDepth 100000 in
theorem bX1_rectangle {n : Nat} {a1 : Int32} {a2 : Int32} {r : Int64} (hx : p.tables.exec = Jvm.exec) (hb : c.code = cX1_rectangle) (hml : c.maxLocals = 10) (hown : s.vm.findClass RX1 = some m.cls) (hts : ∀ w ∈ tw, w.before args s = true) (hK : va_K D vwCl [(cI, .int), (cJ, .long)] s) (hP : va_P D vwCl (wdF cI cJ oF oFr oFs oFc oFw fw fc fwh fbo fra fst fco fro) H) (hR : 0 ≤ R.frames ∧ 0 ≤ R.locals ∧ cells ≤ R.cells ∧ slots ≤ R.slots) (hm : mX1_rectangle n fco fro fw a1 a2 = some r) (ls : Array Slot) (hl : lv_has ls 10 [(0, .ref oF), (1, .int a1), (2, .int a2)]) (K : ∀ (pc : Nat) (ls : Array Slot), decode cX1_rectangle pc = .ok (.lreturn, 1) → W p l e R s m args below meth c H locs cells slots Q (F0 m pc ls [.long r])) : W p l e R s m args below meth c H locs cells slots Q (F0 m 0 ls []) := by
  unfold mX1_rectangle at hm
  refine lv_aload_n hx hb dX1_rectangle_0 rfl (lv_at hl 0 rfl) ?_
  refine va_get (D := D) (ci := 1) (v := .ref oFc) (C := RX1) (T := TX1) (N := 8) hx hb hts tnX1 hown hK hP 0 rfl rfl 6 (by decide) (hts _ qw_38) (fun _ h9 => h9) rfl dX1_rectangle_1 ?_
  refine lv_iload_n hx hb dX1_rectangle_4 rfl (lv_at hl 2 rfl) ?_
  obtain ⟨g1, hm⟩ := gd_out hm
  refine va_iald hx hb hK hP 3 0 rfl rfl g1 dX1_rectangle_5 ?_
  refine lv_aload_n hx hb dX1_rectangle_6 rfl (lv_at hl 0 rfl) ?_
  refine va_get (D := D) (ci := 1) (v := .ref oFc) (C := RX1) (T := TX1) (N := 8) hx hb hts tnX1 hown hK hP 0 rfl rfl 6 (by decide) (hts _ qw_38) (fun _ h9 => h9) rfl dX1_rectangle_7 ?_
  refine lv_iload_n hx hb dX1_rectangle_10 rfl (lv_at hl 1 rfl) ?_
  obtain ⟨g2, hm⟩ := gd_out hm
  refine va_iald hx hb hK hP 3 0 rfl rfl g2 dX1_rectangle_11 ?_
  refine lv_isub hx hb dX1_rectangle_12 ?_
  refine lv_iconst (v := (1 : Int32)) hx hb dX1_rectangle_13 (by decide) ?_
  refine lv_iadd hx hb dX1_rectangle_14 ?_
  refine lv_istore_n (lv' := [(3, .int (((fco a2.toNatClampNeg) - (fco a1.toNatClampNeg)) + (1 : Int32))), (0, .ref oF), (1, .int a1), (2, .int a2)]) hx hb dX1_rectangle_15 rfl hl (by decide) rfl (fun ls hl => ?_)
  refine lv_aload_n hx hb dX1_rectangle_16 rfl (lv_at hl 1 rfl) ?_
  refine va_get (D := D) (ci := 1) (v := .ref oFw) (C := RX1) (T := TX1) (N := 8) hx hb hts tnX1 hown hK hP 0 rfl rfl 7 (by decide) (hts _ qw_39) (fun _ h9 => h9) rfl dX1_rectangle_17 ?_
  refine lv_iload_n hx hb dX1_rectangle_20 rfl (lv_at hl 3 rfl) ?_
  obtain ⟨g3, hm⟩ := gd_out hm
  refine va_iald hx hb hK hP 4 0 rfl rfl g3 dX1_rectangle_21 ?_
  refine lv_aload_n hx hb dX1_rectangle_22 rfl (lv_at hl 1 rfl) ?_
  refine va_get (D := D) (ci := 1) (v := .ref oFw) (C := RX1) (T := TX1) (N := 8) hx hb hts tnX1 hown hK hP 0 rfl rfl 7 (by decide) (hts _ qw_39) (fun _ h9 => h9) rfl dX1_rectangle_23 ?_
  refine lv_iload_n hx hb dX1_rectangle_26 rfl (lv_at hl 2 rfl) ?_
  obtain ⟨g4, hm⟩ := gd_out hm
  refine va_iald hx hb hK hP 4 0 rfl rfl g4 dX1_rectangle_27 ?_
  refine lv_isub hx hb dX1_rectangle_28 ?_
  refine lv_iconst (v := (1 : Int32)) hx hb dX1_rectangle_29 (by decide) ?_
  refine lv_iadd hx hb dX1_rectangle_30 ?_
  refine lv_istore (lv' := [(4, .int (((fro a2.toNatClampNeg) - (fro a1.toNatClampNeg)) + (1 : Int32))), (3, .int (((fco a2.toNatClampNeg) - (fco a1.toNatClampNeg)) + (1 : Int32))), (0, .ref oF), (1, .int a1), (2, .int a2)]) hx hb dX1_rectangle_31 hl (by decide) rfl (fun ls hl => ?_)
  refine lv_iload_n hx hb dX1_rectangle_33 rfl (lv_at hl 1 rfl) ?_
  refine lv_if_le (tgt := 42) hx hb dX1_rectangle_34 (by decide) (fun c5 => ?_) (fun c5 => ?_)
  · rw [if_pos c5] at hm
    refine lv_lconst (v := (0 : Int64)) hx hb dX1_rectangle_42 (by decide) ?_
    have hm := Option.some.inj hm
    subst hm
    exact K 43 ls dX1_rectangle_43
  · rw [if_neg c5] at hm
    refine lv_iload hx hb dX1_rectangle_37 (lv_at hl 0 rfl) ?_
    refine lv_if_gt (tgt := 44) hx hb dX1_rectangle_39 (by decide) (fun c6 => ?_) (fun c6 => ?_)
    · rw [if_pos c6] at hm
      refine lv_lconst (v := (1 : Int64)) hx hb dX1_rectangle_44 (by decide) ?_
      refine lv_iload_n hx hb dX1_rectangle_45 rfl (lv_at hl 1 rfl) ?_
      refine lv_lshl (v := (jlshl (1 : Int64) (((fco a2.toNatClampNeg) - (fco a1.toNatClampNeg)) + (1 : Int32)))) hx hb dX1_rectangle_46 rfl ?_
      refine lv_lconst (v := (1 : Int64)) hx hb dX1_rectangle_47 (by decide) ?_
      refine lv_lsub hx hb dX1_rectangle_48 ?_
      refine lv_iload_n hx hb dX1_rectangle_49 rfl (lv_at hl 3 rfl) ?_
      refine lv_lshl (v := (jlshl ((jlshl (1 : Int64) (((fco a2.toNatClampNeg) - (fco a1.toNatClampNeg)) + (1 : Int32))) - (1 : Int64)) a1)) hx hb dX1_rectangle_50 rfl ?_
      refine lv_lstore (lv' := [(5, .long (jlshl ((jlshl (1 : Int64) (((fco a2.toNatClampNeg) - (fco a1.toNatClampNeg)) + (1 : Int32))) - (1 : Int64)) a1)), (4, .int (((fro a2.toNatClampNeg) - (fro a1.toNatClampNeg)) + (1 : Int32))), (3, .int (((fco a2.toNatClampNeg) - (fco a1.toNatClampNeg)) + (1 : Int32))), (0, .ref oF), (1, .int a1), (2, .int a2)]) hx hb dX1_rectangle_51 hl (by decide) rfl (fun ls hl => ?_)
      refine lv_lconst (v := (0 : Int64)) hx hb dX1_rectangle_53 (by decide) ?_
      refine lv_lstore (lv' := [(7, .long (0 : Int64)), (5, .long (jlshl ((jlshl (1 : Int64) (((fco a2.toNatClampNeg) - (fco a1.toNatClampNeg)) + (1 : Int32))) - (1 : Int64)) a1)), (4, .int (((fro a2.toNatClampNeg) - (fro a1.toNatClampNeg)) + (1 : Int32))), (3, .int (((fco a2.toNatClampNeg) - (fco a1.toNatClampNeg)) + (1 : Int32))), (0, .ref oF), (1, .int a1), (2, .int a2)]) hx hb dX1_rectangle_54 hl (by decide) rfl (fun ls hl => ?_)
      refine lv_iconst (v := (0 : Int32)) hx hb dX1_rectangle_56 (by decide) ?_
      refine lv_istore (lv' := [(9, .int (0 : Int32)), (7, .long (0 : Int64)), (5, .long (jlshl ((jlshl (1 : Int64) (((fco a2.toNatClampNeg) - (fco a1.toNatClampNeg)) + (1 : Int32))) - (1 : Int64)) a1)), (4, .int (((fro a2.toNatClampNeg) - (fro a1.toNatClampNeg)) + (1 : Int32))), (3, .int (((fco a2.toNatClampNeg) - (fco a1.toNatClampNeg)) + (1 : Int32))), (0, .ref oF), (1, .int a1), (2, .int a2)]) hx hb dX1_rectangle_57 hl (by decide) rfl (fun ls hl => ?_)
      obtain ⟨y9, h10, hm⟩ := jb_out hm
      refine wX1_rectangle_L59 hx hb hml hown hts hK hP hR n _ _ _  h10 ls (lv_sub hl [5, 3, 2, 1, 0] rfl) (fun ls hl => ?_)
      refine lv_lload hx hb dX1_rectangle_87 (lv_at hl 0 rfl) ?_
      have hm := Option.some.inj hm
      subst hm
      exact K 89 ls dX1_rectangle_89
    · rw [if_neg c6] at hm
      refine lv_lconst (v := (0 : Int64)) hx hb dX1_rectangle_42 (by decide) ?_
      have hm := Option.some.inj hm
      subst hm
      exact K 43 ls dX1_rectangle_43
set_option maxHeartbeats 4000000 in
set_option maxRecDepth 100000 in
theorem tX1_rectangle (l : Launch) {D : va_G} {n : Nat} {a1 : Int32} {a2 : Int32} {r : Int64} (hm : mX1_rectangle n fco fro fw a1 a2 = some r) : Met l yX1_rectangle (.code yX1_rectangle cX1_rectangle 10 (some .long) :: tw) ({ frames := 0, cells := 0, slots := 0, locals := 0 } : Room) (rdP D [.ref oF, .int a1, .int a2] (wdF cI cJ oF oFr oFs oFc oFw fw fc fwh fbo fra fst fco fro) [(cI, .int), (cJ, .long)]) (vp_Sl (fun q => q = r)) 0 0 (fun _ => False) := by
  refine Met.ofW (cc := cX1_rectangle) (maxL := 10) (ret := (some .long)) (by decide) rfl ?_
  intro p e s m args below meth c s₁ B hml hv
  obtain ⟨rfl, hP, hK⟩ := hv
  have hx := B.exec
  have hb := B.bytes
  have hr := B.returns
  have hts : ∀ w ∈ tw, w.before _ s = true := fun w h => atoms_spec (ws := .code yX1_rectangle cX1_rectangle 10 (some .long) :: tw) B.pre w (List.mem_cons_of_mem _ h)
  have hown : s.vm.findClass RX1 = some m.cls := findClass_of_methodNamed B.named
  have hlocks := B.notSynchronized
  have hl := lv_entry ([.ref oF, .int a1, .int a2]) (n := 10) (Nat.le_of_ble_eq_true rfl)
  rw [lg_entry_eq]
  generalize (lg_sl ([.ref oF, .int a1, .int a2]) ++ List.replicate (10 - (lg_sl ([.ref oF, .int a1, .int a2])).length) Slot.unset).toArray = ls at hl ⊢
  refine bX1_rectangle hx hb hml hown hts hK hP ⟨Nat.le_of_ble_eq_true rfl, Nat.le_of_ble_eq_true rfl, Nat.zero_le _, Nat.zero_le _⟩ hm ls hl (fun pc ls hd => ?_)
  exact W.lret hx hb hr (fun t ht hW => ⟨r, rfl, rfl, ht⟩) (fun q h => by cases h) hd
set_option maxHeartbeats 4000000 in
set_option maxRecDepth 100000 in
theorem kX1_rectangle {own : String} {cc : ByteArray} {nL idx pc : Nat} {ls : Array Slot} {rest : List Value} {n : Nat} {a1 : Int32} {a2 : Int32} {r : Int64} (fx : CallFix p m c cc nL s args tw own) (hq : Cond.methodLink own idx yX1_rectangle ∈ tw) (hP : va_P D vwCl (wdF cI cJ oF oFr oFs oFc oFw fw fc fwh fbo fra fst fco fro) H) (hK : va_K D vwCl [(cI, .int), (cJ, .long)] s) (hm : mX1_rectangle n fco fro fw a1 a2 = some r) (hsz : ls.size = nL) (hR : 1 ≤ R.frames ∧ 29 ≤ R.locals ∧ cells ≤ R.cells ∧ slots ≤ R.slots) (hst : (rest.map fun v => v.category).sum ≤ 8) (hd : decode cc pc = .ok (.invokevirtual idx, 3)) (kk : W p l e R s m args below meth c H locs cells slots Q (F0 m (pc + 3) ls (.long r :: rest))) : W p l e R s m args below meth c H locs cells slots Q (F0 m pc ls (.int a2 :: .int a1 :: .ref oF :: rest)) := by
  exact vp_callSl (va_Run.run (va_runV (As := [.int a1, .int a2]) (rest := rest) fx (tX1_rectangle l hm) (cwV 2 fx.2.2.2.2 (tw_V hq qw_41 qw_42 qw_18 qw_43) rfl rfl rfl (by decide +kernel) ⟨hR.1, hR.2.1⟩) ⟨rdP_bl, va_recv hK hP (ci := 1) (q0 := 0) rfl rfl, rdP_ok hP hK⟩ rfl rfl hsz rfl (lv_room hst) hd ⟨hR.2.2.1, hR.2.2.2⟩)) (fun r9 hr9 => by first | (rw [hr9]; exact kk) | (rw [hr9.1]; exact kk))
end
