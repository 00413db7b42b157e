theorem qw_262 : Cond.fieldLink RX0 28 "WornShapes$Boxes" "plane" "LWornShapes$Field;" ∈ tw := tw_of (by decide +kernel) rfl
theorem qw_263 : Cond.methodLink RX0 32 yX1_rectangle ∈ tw := tw_of (by decide +kernel) rfl
theorem qw_264 : Cond.constantLong RX0 38 (-1) ∈ tw := tw_of (by decide +kernel) rfl
theorem qw_265 : Cond.instanceMethod yX0_between ∈ tw := tw_of (by decide +kernel) rfl
theorem qw_266 : Cond.selects RX0 yX0_between yX0_between ∈ tw := tw_of (by decide +kernel) rfl
theorem qw_267 : Cond.initialized RX0 ∈ tw := tw_of (by decide +kernel) rfl
theorem qw_268 : Cond.code yX0_between cX0_between 7 (some .long) ∈ tw := tw_of (by decide +kernel) rfl
theorem qw_269 : Cond.fieldLink RX0 40 "WornShapes$Field" "cells" "I" ∈ tw := tw_of (by decide +kernel) rfl
theorem qw_270 : Cond.methodLink RX0 43 yX0_between ∈ tw := tw_of (by decide +kernel) rfl
theorem qw_271 : Cond.methodLink RX0 47 yX1_canWiden ∈ tw := tw_of (by decide +kernel) rfl
theorem qw_272 : Cond.instanceMethod yX0_howMany ∈ tw := tw_of (by decide +kernel) rfl
theorem qw_273 : Cond.selects RX0 yX0_howMany yX0_howMany ∈ tw := tw_of (by decide +kernel) rfl
theorem qw_274 : Cond.code yX0_howMany cX0_howMany 9 (some .int) ∈ tw := tw_of (by decide +kernel) rfl
theorem qw_275 : Cond.instanceMethod yX0_howManyWidestAt ∈ tw := tw_of (by decide +kernel) rfl
theorem qw_276 : Cond.selects RX0 yX0_howManyWidestAt yX0_howManyWidestAt ∈ tw := tw_of (by decide +kernel) rfl
theorem qw_277 : Cond.code yX0_howManyWidestAt cX0_howManyWidestAt 9 (some .int) ∈ tw := tw_of (by decide +kernel) rfl
theorem qw_278 : Cond.fieldLink RX0 15 "WornShapes$Boxes" "size" "I" ∈ tw := tw_of (by decide +kernel) rfl
theorem qw_279 : Cond.fieldLink RX0 11 "WornShapes$Boxes" "widest" "[J" ∈ tw := tw_of (by decide +kernel) rfl
theorem qw_280 : Cond.instanceMethod yX0_howManyHave ∈ tw := tw_of (by decide +kernel) rfl
theorem qw_281 : Cond.selects RX0 yX0_howManyHave yX0_howManyHave ∈ tw := tw_of (by decide +kernel) rfl
theorem qw_282 : Cond.code yX0_howManyHave cX0_howManyHave 4 (some .int) ∈ tw := tw_of (by decide +kernel) rfl
theorem qw_283 : Cond.methodLink RX0 74 yX0_howManyHave ∈ tw := tw_of (by decide +kernel) rfl
theorem qw_284 : Cond.instanceMethod yX0_hardest ∈ tw := tw_of (by decide +kernel) rfl
theorem qw_285 : Cond.selects RX0 yX0_hardest yX0_hardest ∈ tw := tw_of (by decide +kernel) rfl
theorem qw_286 : Cond.code yX0_hardest cX0_hardest 7 (some .int) ∈ tw := tw_of (by decide +kernel) rfl
section
variable {A : Nat → Prop} {p : Program} {l : Launch} {e : Env} {R : Room} {s : State} {m : MethodId} {args : Array Value} {below : List Frame} {meth : Method} {c : Code} {H : Heap} {locs : List Loc} {cells slots : Nat} {Q : State → Prop} {D : va_G} {oF : Nat} {oFr : Nat} {oFs : Nat} {oFc : Nat} {oFw : Nat} {oS : Nat} {oSs : Nat} {oG : Nat} {oGa : Nat} {oQ : Nat} {oQw : Nat} {oI : Nat} {oR : Nat} {oRh : Nat} {oRm : Nat} {oB : Nat} {oBw : Nat} {oX : Nat} {oXp : Nat} {oXg : Nat} {oG0 : Nat} {oGa0 : Nat} {oG1 : Nat} {oGa1 : Nat} {oG2 : Nat} {oGa2 : Nat} {oM : Nat} {oM1 : Nat} {oM2 : Nat} {oM3 : Nat} {oM4 : Nat} {oM5 : Nat} {oM6 : Nat} {oM7 : Nat} {oM8 : Nat} {oM9 : Nat} {oM10 : Nat} {oM11 : Nat} {tS : Nat} {tA : Nat} {cI : ClassId} {cJ : ClassId} {cG : ClassId} {fw : Int32} {fc : Int32} {fwh : Int64} {fbo : Int64} {fra : Nat → Int32} {fco : Nat → Int32} {fro : Nat → Int32} {fst : Nat → Int64} {srim : Int32} {sst : Nat → Int32} {gsz : Int32} {gac : Nat → Int32} {qln : Int32} {qwy : Nat → Int32} {ijn : Int32} {rsz : Int32} {rhi : Nat → Int32} {rmi : Nat → Int32} {bsz : Int32} {bfi : Int32} {bla : Int32} {bar : Int32} {bwi : Nat → Int64} {xpi : Nat → Int64} {gs0 : Int32} {gs1 : Int32} {gs2 : Int32} {ga0 : Nat → Int32} {ga1 : Nat → Int32} {ga2 : Nat → Int32} {mw : Int32} {mt : Int32} {mrim : Int32} {mjn : Int32} {mhm : Int32} {mpn : Int32} {mbm : Int32} {mgm : Int32} {mpi : Nat → Int64} {mbe : Nat → Int64} {mgr : Nat → Int64} {mle : Nat → Int64} {mst : Nat → Int32} {mam : Nat → Int32} {mac : Nat → Int32} {mro : Nat → Int32} {mhi : Nat → Int32} {mmi : Nat → Int32} {mtr : Nat → Int32}
-- X0_between
def mX0_between (n : Nat) (fco : Nat → Int32) (fro : Nat → Int32) (fw : Int32) (a1 : Int32) (a2 : Int32) (a3 : Int64) : Option Int64 :=
  (if (((jlushr a3 a1) &&& (jlushr a3 a2)) &&& (1 : Int64)) = (0 : Int64) then (some (0 : Int64)) else jb (mX1_rectangle n fco fro fw a1 a2) (fun (r2 : Int64) => (if (r2 &&& (a3 ^^^ (-1 : Int64))) = (0 : Int64) then (some r2) else (some (0 : Int64)))))
theorem dX0_between_0 : decode cX0_between 0 = .ok (.lload_n 3, 1) := by decide +kernel
theorem dX0_between_1 : decode cX0_between 1 = .ok (.iload_n 1, 1) := by decide +kernel
theorem dX0_between_2 : decode cX0_between 2 = .ok (.lushr, 1) := by decide +kernel
theorem dX0_between_3 : decode cX0_between 3 = .ok (.lload_n 3, 1) := by decide +kernel
theorem dX0_between_4 : decode cX0_between 4 = .ok (.iload_n 2, 1) := by decide +kernel
theorem dX0_between_5 : decode cX0_between 5 = .ok (.lushr, 1) := by decide +kernel
theorem dX0_between_6 : decode cX0_between 6 = .ok (.land, 1) := by decide +kernel
theorem dX0_between_7 : decode cX0_between 7 = .ok (.lconst 1, 1) := by decide +kernel
theorem dX0_between_8 : decode cX0_between 8 = .ok (.land, 1) := by decide +kernel
theorem dX0_between_9 : decode cX0_between 9 = .ok (.lconst 0, 1) := by decide +kernel
theorem dX0_between_10 : decode cX0_between 10 = .ok (.lcmp, 1) := by decide +kernel
theorem dX0_between_11 : decode cX0_between 11 = .ok (.ifCond .ne 5, 3) := by decide +kernel
theorem dX0_between_14 : decode cX0_between 14 = .ok (.lconst 0, 1) := by decide +kernel
theorem dX0_between_15 : decode cX0_between 15 = .ok (.lreturn, 1) := by decide +kernel
theorem dX0_between_16 : decode cX0_between 16 = .ok (.aload_n 0, 1) := by decide +kernel
theorem dX0_between_17 : decode cX0_between 17 = .ok (.getfield 28, 3) := by decide +kernel
theorem dX0_between_20 : decode cX0_between 20 = .ok (.iload_n 1, 1) := by decide +kernel
theorem dX0_between_21 : decode cX0_between 21 = .ok (.iload_n 2, 1) := by decide +kernel
theorem dX0_between_22 : decode cX0_between 22 = .ok (.invokevirtual 32, 3) := by decide +kernel
theorem dX0_between_25 : decode cX0_between 25 = .ok (.lstore 5, 2) := by decide +kernel
theorem dX0_between_27 : decode cX0_between 27 = .ok (.lload 5, 2) := by decide +kernel
theorem dX0_between_29 : decode cX0_between 29 = .ok (.lload_n 3, 1) := by decide +kernel
theorem dX0_between_30 : decode cX0_between 30 = .ok (.ldc2_w 38, 3) := by decide +kernel
theorem dX0_between_33 : decode cX0_between 33 = .ok (.lxor, 1) := by decide +kernel
theorem dX0_between_34 : decode cX0_between 34 = .ok (.land, 1) := by decide +kernel
theorem dX0_between_35 : decode cX0_between 35 = .ok (.lconst 0, 1) := by decide +kernel
theorem dX0_between_36 : decode cX0_between 36 = .ok (.lcmp, 1) := by decide +kernel
theorem dX0_between_37 : decode cX0_between 37 = .ok (.ifCond .ne 8, 3) := by decide +kernel
theorem dX0_between_40 : decode cX0_between 40 = .ok (.lload 5, 2) := by decide +kernel
theorem dX0_between_42 : decode cX0_between 42 = .ok (.goto 4, 3) := by decide +kernel
theorem dX0_between_45 : decode cX0_between 45 = .ok (.lconst 0, 1) := by decide +kernel
theorem dX0_between_46 : decode cX0_between 46 = .ok (.lreturn, 1) := by decide +kernel
set_option maxHeartbeats 4000000 in
set_option maxRecDepth 100000 in
theorem bX0_between {n : Nat} {a1 : Int32} {a2 : Int32} {a3 : Int64} {r : Int64} (hx : p.tables.exec = Jvm.exec) (hb : c.code = cX0_between) (hml : c.maxLocals = 7) (hown : s.vm.findClass RX0 = some m.cls) (hts : ∀ w ∈ tw, w.before args s = true) (hK : va_K D vwCl [(cI, .int), (cJ, .long)] s) (hP : va_P D vwCl (wdB cJ cI oB oBw oF oFr oFs oFc oFw bsz bfi bla bar bwi fw fc fwh fbo fra fst fco fro) H) (hR : 1 ≤ R.frames ∧ 29 ≤ R.locals ∧ cells ≤ R.cells ∧ slots ≤ R.slots) (hm : mX0_between n fco fro fw a1 a2 a3 = some r) (ls : Array Slot) (hl : lv_has ls 7 [(0, .ref oB), (1, .int a1), (2, .int a2), (3, .long a3)]) (K : ∀ (pc : Nat) (ls : Array Slot), decode cX0_between pc = .ok (.lreturn, 1) → W p l e R s m args below meth c H locs cells slots Q (F0 m pc ls [.long r])) : W p l e R s m args below meth c H locs cells slots Q (F0 m 0 ls []) := by
  unfold mX0_between at hm
  refine lv_lload_n hx hb dX0_between_0 rfl (lv_at hl 3 rfl) ?_
  refine lv_iload_n hx hb dX0_between_1 rfl (lv_at hl 1 rfl) ?_
  refine lv_lushr (v := (jlushr a3 a1)) hx hb dX0_between_2 rfl ?_
  refine lv_lload_n hx hb dX0_between_3 rfl (lv_at hl 3 rfl) ?_
  refine lv_iload_n hx hb dX0_between_4 rfl (lv_at hl 2 rfl) ?_
  refine lv_lushr (v := (jlushr a3 a2)) hx hb dX0_between_5 rfl ?_
  refine lv_land hx hb dX0_between_6 ?_
  refine lv_lconst (v := (1 : Int64)) hx hb dX0_between_7 (by decide) ?_
  refine lv_land hx hb dX0_between_8 ?_
  refine lv_lconst (v := (0 : Int64)) hx hb dX0_between_9 (by decide) ?_
  refine W.lcmp hx hb dX0_between_10 ?_
  refine lv_if_ne (tgt := 16) hx hb dX0_between_11 (by decide) (fun c1 => ?_) (fun c1 => ?_)
  · have c1 := fun h9 => c1 ((lg_cmp_eq (((jlushr a3 a1) &&& (jlushr a3 a2)) &&& (1 : Int64)) (0 : Int64)).mpr h9)
    rw [if_neg c1] at hm
    refine lv_aload_n hx hb dX0_between_16 rfl (lv_at hl 0 rfl) ?_
    refine va_get (D := D) (ci := 0) (v := .ref oF) (C := RX0) (T := TX0) (N := 6) hx hb hts tnX0 hown hK hP 0 rfl rfl 0 (by decide) (hts _ qw_262) (fun _ h9 => h9) rfl dX0_between_17 ?_
    refine lv_iload_n hx hb dX0_between_20 rfl (lv_at hl 1 rfl) ?_
    refine lv_iload_n hx hb dX0_between_21 rfl (lv_at hl 2 rfl) ?_
    obtain ⟨r2, h3, hm⟩ := jb_out hm
    refine kX1_rectangle ⟨hx, hb, hml, hown, hts⟩ qw_263 (hP.sub (ws' := (wdF cI cJ oF oFr oFs oFc oFw fw fc fwh fbo fra fst fco fro)) [2, 3, 4, 5, 6] rfl) hK h3 hl.1 ⟨Nat.le_trans (by decide) hR.1, Nat.le_trans (by decide) hR.2.1, hR.2.2⟩ (Nat.le_of_ble_eq_true rfl) dX0_between_22 ?_
    refine lv_lstore (lv' := [(5, .long r2), (0, .ref oB), (1, .int a1), (2, .int a2), (3, .long a3)]) hx hb dX0_between_25 hl (by decide) rfl (fun ls hl => ?_)
    refine lv_lload hx hb dX0_between_27 (lv_at hl 0 rfl) ?_
    refine lv_lload_n hx hb dX0_between_29 rfl (lv_at hl 4 rfl) ?_
    refine lv_ldc2 (v := (-1 : Int64)) hx hb hown (hts _ qw_264) dX0_between_30 ?_
    refine lv_lxor hx hb dX0_between_33 ?_
    refine lv_land hx hb dX0_between_34 ?_
    refine lv_lconst (v := (0 : Int64)) hx hb dX0_between_35 (by decide) ?_
    refine W.lcmp hx hb dX0_between_36 ?_
    refine lv_if_ne (tgt := 45) hx hb dX0_between_37 (by decide) (fun c4 => ?_) (fun c4 => ?_)
    · have c4 := fun h9 => c4 ((lg_cmp_eq (r2 &&& (a3 ^^^ (-1 : Int64))) (0 : Int64)).mpr h9)
      rw [if_neg c4] at hm
      refine lv_lconst (v := (0 : Int64)) hx hb dX0_between_45 (by decide) ?_
      have hm := Option.some.inj hm
      subst hm
      exact K 46 ls dX0_between_46
    · have c4 := (lg_cmp_eq (r2 &&& (a3 ^^^ (-1 : Int64))) (0 : Int64)).mp c4
      rw [if_pos c4] at hm
      refine lv_lload hx hb dX0_between_40 (lv_at hl 0 rfl) ?_
      refine lv_goto (tgt := 46) hx hb dX0_between_42 (by decide) ?_
      have hm := Option.some.inj hm
      subst hm
      exact K 46 ls dX0_between_46
  · have c1 := (lg_cmp_eq (((jlushr a3 a1) &&& (jlushr a3 a2)) &&& (1 : Int64)) (0 : Int64)).mp c1
    rw [if_pos c1] at hm
    refine lv_lconst (v := (0 : Int64)) hx hb dX0_between_14 (by decide) ?_
    have hm := Option.some.inj hm
    subst hm
    exact K 15 ls dX0_between_15
set_option maxHeartbeats 4000000 in
set_option maxRecDepth 100000 in
theorem tX0_between (l : Launch) {D : va_G} {n : Nat} {a1 : Int32} {a2 : Int32} {a3 : Int64} {r : Int64} (hm : mX0_between n fco fro fw a1 a2 a3 = some r) : Met l yX0_between (.code yX0_between cX0_between 7 (some .long) :: tw) ({ frames := 1, cells := 0, slots := 0, locals := 29 } : Room) (rdP D [.ref oB, .int a1, .int a2, .long a3] (wdB cJ cI oB oBw oF oFr oFs oFc oFw bsz bfi bla bar bwi fw fc fwh fbo fra fst fco fro) [(cI, .int), (cJ, .long)]) (vp_Sl (fun q => q = r)) 0 0 (fun _ => False) := by
  refine Met.ofW (cc := cX0_between) (maxL := 7) (ret := (some .long)) (by decide) rfl ?_
  intro p e s m args below meth c s₁ B hml hv
  obtain ⟨rfl, hP, hK⟩ := hv
  have hx := B.exec
  have hb := B.bytes
  have hr := B.returns
  have hts : ∀ w ∈ tw, w.before _ s = true := fun w h => atoms_spec (ws := .code yX0_between cX0_between 7 (some .long) :: tw) B.pre w (List.mem_cons_of_mem _ h)
  have hown : s.vm.findClass RX0 = some m.cls := findClass_of_methodNamed B.named
  have hlocks := B.notSynchronized
  have hl := lv_entry ([.ref oB, .int a1, .int a2, .long a3]) (n := 7) (Nat.le_of_ble_eq_true rfl)
  rw [lg_entry_eq]
  generalize (lg_sl ([.ref oB, .int a1, .int a2, .long a3]) ++ List.replicate (7 - (lg_sl ([.ref oB, .int a1, .int a2, .long a3])).length) Slot.unset).toArray = ls at hl ⊢
  refine bX0_between hx hb hml hown hts hK hP ⟨Nat.le_of_ble_eq_true rfl, Nat.le_of_ble_eq_true rfl, Nat.zero_le _, Nat.zero_le _⟩ hm ls hl (fun pc ls hd => ?_)
  exact W.lret hx hb hr (fun t ht hW => ⟨r, rfl, rfl, ht⟩) (fun q h => by cases h) hd
set_option maxHeartbeats 4000000 in
set_option maxRecDepth 100000 in
theorem kX0_between {own : String} {cc : ByteArray} {nL idx pc : Nat} {ls : Array Slot} {rest : List Value} {n : Nat} {a1 : Int32} {a2 : Int32} {a3 : Int64} {r : Int64} (fx : CallFix p m c cc nL s args tw own) (hq : Cond.methodLink own idx yX0_between ∈ tw) (hP : va_P D vwCl (wdB cJ cI oB oBw oF oFr oFs oFc oFw bsz bfi bla bar bwi fw fc fwh fbo fra fst fco fro) H) (hK : va_K D vwCl [(cI, .int), (cJ, .long)] s) (hm : mX0_between n fco fro fw a1 a2 a3 = some r) (hsz : ls.size = nL) (hR : 2 ≤ R.frames ∧ 55 ≤ R.locals ∧ cells ≤ R.cells ∧ slots ≤ R.slots) (hst : (rest.map fun v => v.category).sum ≤ 8) (hd : decode cc pc = .ok (.invokevirtual idx, 3)) (kk : W p l e R s m args below meth c H locs cells slots Q (F0 m (pc + 3) ls (.long r :: rest))) : W p l e R s m args below meth c H locs cells slots Q (F0 m pc ls (.long a3 :: .int a2 :: .int a1 :: .ref oB :: rest)) := by
  exact vp_callSl (va_Run.run (va_runV (As := [.int a1, .int a2, .long a3]) (rest := rest) fx (tX0_between l hm) (cwV 3 fx.2.2.2.2 (tw_V hq qw_265 qw_266 qw_267 qw_268) rfl rfl rfl (by decide +kernel) ⟨hR.1, hR.2.1⟩) ⟨rdP_bl, va_recv hK hP (ci := 0) (q0 := 0) rfl rfl, rdP_ok hP hK⟩ rfl rfl hsz rfl (lv_room hst) hd ⟨hR.2.2.1, hR.2.2.2⟩)) (fun r9 hr9 => by first | (rw [hr9]; exact kk) | (rw [hr9.1]; exact kk))
-- X0_howMany
def mX0_howMany_L22 (n : Nat) (fc : Int32) (fco : Nat → Int32) (fro : Nat → Int32) (fw : Int32) (v5 : Int32) (v1 : Int64) (v3 : Int32) (fst : Nat → Int64) (fra : Nat → Int32) : Nat → (Int32) → (Int32) → Option ((Int32))
  | 0, _, _ => none
  | k + 1, v4, v6 => (if fc ≤ v6 then some (v4) else jb (mX0_between n fco fro fw v5 v6 v1) (fun (r5 : Int64) => jb (if r5 = (0 : Int64) then (some (v4)) else (if v3 = 0 then jb (mX1_canWiden n fst fra r5 v1) (fun (r12 : Int32) => (if r12 = 0 then (some ((v4 + (1 : Int32)))) else (some (v4)))) else (some ((v4 + (1 : Int32)))))) (fun (j7 : Int32) => mX0_howMany_L22 n fc fco fro fw v5 v1 v3 fst fra k j7 (v6 + (1 : Int32)))))
def mX0_howMany_L6 (n : Nat) (fc : Int32) (fco : Nat → Int32) (fro : Nat → Int32) (fw : Int32) (v1 : Int64) (v3 : Int32) (fst : Nat → Int64) (fra : Nat → Int32) : Nat → (Int32) → (Int32) → Option ((Int32))
  | 0, _, _ => none
  | k + 1, v4, v5 => (if fc ≤ v5 then some (v4) else jb (mX0_howMany_L22 n fc fco fro fw v5 v1 v3 fst fra n v4 v5) (fun (y15 : Int32) => mX0_howMany_L6 n fc fco fro fw v1 v3 fst fra k y15 (v5 + (1 : Int32))))
def mX0_howMany (n : Nat) (fc : Int32) (fco : Nat → Int32) (fro : Nat → Int32) (fw : Int32) (fst : Nat → Int64) (fra : Nat → Int32) (a1 : Int64) (a3 : Int32) : Option Int32 :=
  jb (mX0_howMany_L6 n fc fco fro fw a1 a3 fst fra n (0 : Int32) (0 : Int32)) (fun (y17 : Int32) => (some y17))
theorem dX0_howMany_0 : decode cX0_howMany 0 = .ok (.iconst 0, 1) := by decide +kernel
theorem dX0_howMany_1 : decode cX0_howMany 1 = .ok (.istore 4, 2) := by decide +kernel
theorem dX0_howMany_3 : decode cX0_howMany 3 = .ok (.iconst 0, 1) := by decide +kernel
theorem dX0_howMany_4 : decode cX0_howMany 4 = .ok (.istore 5, 2) := by decide +kernel
theorem dX0_howMany_6 : decode cX0_howMany 6 = .ok (.iload 5, 2) := by decide +kernel
theorem dX0_howMany_8 : decode cX0_howMany 8 = .ok (.aload_n 0, 1) := by decide +kernel
theorem dX0_howMany_9 : decode cX0_howMany 9 = .ok (.getfield 28, 3) := by decide +kernel
theorem dX0_howMany_12 : decode cX0_howMany 12 = .ok (.getfield 40, 3) := by decide +kernel
theorem dX0_howMany_15 : decode cX0_howMany 15 = .ok (.if_icmp .ge 69, 3) := by decide +kernel
theorem dX0_howMany_18 : decode cX0_howMany 18 = .ok (.iload 5, 2) := by decide +kernel
theorem dX0_howMany_20 : decode cX0_howMany 20 = .ok (.istore 6, 2) := by decide +kernel
theorem dX0_howMany_22 : decode cX0_howMany 22 = .ok (.iload 6, 2) := by decide +kernel
theorem dX0_howMany_24 : decode cX0_howMany 24 = .ok (.aload_n 0, 1) := by decide +kernel
theorem dX0_howMany_25 : decode cX0_howMany 25 = .ok (.getfield 28, 3) := by decide +kernel
theorem dX0_howMany_28 : decode cX0_howMany 28 = .ok (.getfield 40, 3) := by decide +kernel
theorem dX0_howMany_31 : decode cX0_howMany 31 = .ok (.if_icmp .ge 47, 3) := by decide +kernel
theorem dX0_howMany_34 : decode cX0_howMany 34 = .ok (.aload_n 0, 1) := by decide +kernel
theorem dX0_howMany_35 : decode cX0_howMany 35 = .ok (.iload 5, 2) := by decide +kernel
theorem dX0_howMany_37 : decode cX0_howMany 37 = .ok (.iload 6, 2) := by decide +kernel
theorem dX0_howMany_39 : decode cX0_howMany 39 = .ok (.lload_n 1, 1) := by decide +kernel
theorem dX0_howMany_40 : decode cX0_howMany 40 = .ok (.invokevirtual 43, 3) := by decide +kernel
theorem dX0_howMany_43 : decode cX0_howMany 43 = .ok (.lstore 7, 2) := by decide +kernel
theorem dX0_howMany_45 : decode cX0_howMany 45 = .ok (.lload 7, 2) := by decide +kernel
theorem dX0_howMany_47 : decode cX0_howMany 47 = .ok (.lconst 0, 1) := by decide +kernel
theorem dX0_howMany_48 : decode cX0_howMany 48 = .ok (.lcmp, 1) := by decide +kernel
theorem dX0_howMany_49 : decode cX0_howMany 49 = .ok (.ifCond .eq 23, 3) := by decide +kernel
theorem dX0_howMany_52 : decode cX0_howMany 52 = .ok (.iload_n 3, 1) := by decide +kernel
theorem dX0_howMany_53 : decode cX0_howMany 53 = .ok (.ifCond .ne 16, 3) := by decide +kernel
theorem dX0_howMany_56 : decode cX0_howMany 56 = .ok (.aload_n 0, 1) := by decide +kernel
theorem dX0_howMany_57 : decode cX0_howMany 57 = .ok (.getfield 28, 3) := by decide +kernel
theorem dX0_howMany_60 : decode cX0_howMany 60 = .ok (.lload 7, 2) := by decide +kernel
theorem dX0_howMany_62 : decode cX0_howMany 62 = .ok (.lload_n 1, 1) := by decide +kernel
theorem dX0_howMany_63 : decode cX0_howMany 63 = .ok (.invokevirtual 47, 3) := by decide +kernel
theorem dX0_howMany_66 : decode cX0_howMany 66 = .ok (.ifCond .ne 6, 3) := by decide +kernel
theorem dX0_howMany_69 : decode cX0_howMany 69 = .ok (.iinc 4 1, 3) := by decide +kernel
theorem dX0_howMany_72 : decode cX0_howMany 72 = .ok (.iinc 6 1, 3) := by decide +kernel
theorem dX0_howMany_75 : decode cX0_howMany 75 = .ok (.goto (-53), 3) := by decide +kernel
theorem dX0_howMany_78 : decode cX0_howMany 78 = .ok (.iinc 5 1, 3) := by decide +kernel
theorem dX0_howMany_81 : decode cX0_howMany 81 = .ok (.goto (-75), 3) := by decide +kernel
theorem dX0_howMany_84 : decode cX0_howMany 84 = .ok (.iload 4, 2) := by decide +kernel
theorem dX0_howMany_86 : decode cX0_howMany 86 = .ok (.ireturn, 1) := by decide +kernel
set_option maxHeartbeats 4000000 in
set_option maxRecDepth 100000 in
theorem wX0_howMany_L22 {n : Nat} {v1 : Int64} {v3 : Int32} {v5 : Int32} (hx : p.tables.exec = Jvm.exec) (hb : c.code = cX0_howMany) (hml : c.maxLocals = 9) (hown : s.vm.findClass RX0 = some m.cls) (hts : ∀ w ∈ tw, w.before args s = true) (hK : va_K D vwCl [(cI, .int), (cJ, .long)] s) (hP : va_P D vwCl (wdB cJ cI oB oBw oF oFr oFs oFc oFw bsz bfi bla bar bwi fw fc fwh fbo fra fst fco fro) H) (hZ : stZ (fun _ => False) tS tA s s.heap) (hSz : va_S (fun _ => False) s.heap H locs) (hR : 2 ≤ R.frames ∧ 55 ≤ R.locals ∧ cells ≤ R.cells ∧ slots ≤ R.slots) : ∀ (k : Nat) (v4 : Int32) (v6 : Int32) (x4 : Int32), mX0_howMany_L22 n fc fco fro fw v5 v1 v3 fst fra k v4 v6 = some (x4) → ∀ ls : Array Slot, lv_has ls 9 [(0, .ref oB), (1, .long v1), (3, .int v3), (4, .int v4), (5, .int v5), (6, .int v6)] → (∀ ls : Array Slot, lv_has ls 9 [(4, .int x4), (0, .ref oB), (1, .long v1), (3, .int v3), (5, .int v5)] → W p l e R s m args below meth c H locs cells slots Q (F0 m 78 ls [])) → W p l e R s m args below meth c H locs cells slots Q (F0 m 22 ls []) := by
  intro k
  induction k with
  | zero => intro v4 v6 x4 hm; rw [mX0_howMany_L22] at hm; cases hm
  | succ k ih =>
    intro v4 v6 x4 hm ls hl K0
    rw [mX0_howMany_L22] at hm
    refine lv_iload hx hb dX0_howMany_22 (lv_at hl 5 rfl) ?_
    refine lv_aload_n hx hb dX0_howMany_24 rfl (lv_at hl 0 rfl) ?_
    refine va_get (D := D) (ci := 0) (v := .ref oF) (C := RX0) (T := TX0) (N := 6) hx hb hts tnX0 hown hK hP 0 rfl rfl 0 (by decide) (hts _ qw_262) (fun _ h9 => h9) rfl dX0_howMany_25 ?_
    refine va_get (D := D) (ci := 1) (v := .int fc) (C := RX1) (T := TX1) (N := 8) hx hb hts tnX1 hown hK hP 2 rfl rfl 1 (by decide) (hts _ qw_269) (fun _ h9 => h9) rfl dX0_howMany_28 ?_
    refine lv_icmp_ge (tgt := 78) hx hb dX0_howMany_31 (by decide) (fun c4 => ?_) (fun c4 => ?_)
    · rw [if_pos c4] at hm
      have hm := Option.some.inj hm
      have e9 : x4 = v4 := (congrArg (fun q => q) hm).symm
      rw [e9] at K0
      exact K0 ls (lv_sub hl [3, 0, 1, 2, 4] rfl)
    · rw [if_neg c4] at hm
      refine lv_aload_n hx hb dX0_howMany_34 rfl (lv_at hl 0 rfl) ?_
      refine lv_iload hx hb dX0_howMany_35 (lv_at hl 4 rfl) ?_
      refine lv_iload hx hb dX0_howMany_37 (lv_at hl 5 rfl) ?_
      refine lv_lload_n hx hb dX0_howMany_39 rfl (lv_at hl 1 rfl) ?_
      obtain ⟨r5, h6, hm⟩ := jb_out hm
      refine kX0_between ⟨hx, hb, hml, hown, hts⟩ qw_270 hP hK h6 hl.1 ⟨Nat.le_trans (by decide) hR.1, Nat.le_trans (by decide) hR.2.1, hR.2.2⟩ (Nat.le_of_ble_eq_true rfl) dX0_howMany_40 ?_
      refine lv_lstore (lv' := [(7, .long r5), (0, .ref oB), (1, .long v1), (3, .int v3), (4, .int v4), (5, .int v5), (6, .int v6)]) hx hb dX0_howMany_43 hl (by decide) rfl (fun ls hl => ?_)
      refine lv_lload hx hb dX0_howMany_45 (lv_at hl 0 rfl) ?_
      refine lv_lconst (v := (0 : Int64)) hx hb dX0_howMany_47 (by decide) ?_
      refine W.lcmp hx hb dX0_howMany_48 ?_
      obtain ⟨j7, hi8, hm⟩ := jb_out hm
      have key9 : ∀ (ls : Array Slot), lv_has ls 9 [(4, .int j7), (0, .ref oB), (1, .long v1), (3, .int v3), (5, .int v5), (6, .int v6)] → W p l e R s m args below meth c H locs cells slots Q (F0 m 72 ls []) := by
        intro ls hl
        refine lv_iinc (v := (v6 + (1 : Int32))) (lv' := [(6, .int (v6 + (1 : Int32))), (4, .int j7), (0, .ref oB), (1, .long v1), (3, .int v3), (5, .int v5)]) hx hb dX0_howMany_72 hl (k := 5) rfl (by rfl) (by decide) rfl (fun ls hl => ?_)
        refine lv_goto (tgt := 22) hx hb dX0_howMany_75 (by decide) ?_
        exact ih _ _ _ hm ls (lv_sub hl [2, 3, 4, 1, 5, 0] rfl) K0
      refine lv_if_eq (tgt := 72) hx hb dX0_howMany_49 (by decide) (fun c10 => ?_) (fun c10 => ?_)
      · have c10 := (lg_cmp_eq r5 (0 : Int64)).mp c10
        rw [if_pos c10] at hi8
        have hi8 := Option.some.inj hi8
        have e9 : j7 = v4 := (congrArg (fun q => q) hi8).symm
        rw [e9] at key9
        exact key9 ls (lv_sub hl [4, 1, 2, 3, 5, 6] rfl)
      · have c10 := fun h9 => c10 ((lg_cmp_eq r5 (0 : Int64)).mpr h9)
        rw [if_neg c10] at hi8
        refine lv_iload_n hx hb dX0_howMany_52 rfl (lv_at hl 3 rfl) ?_
        refine lv_if_ne (tgt := 69) hx hb dX0_howMany_53 (by decide) (fun c11 => ?_) (fun c11 => ?_)
        · rw [if_neg c11] at hi8
          refine lv_iinc (v := (v4 + (1 : Int32))) (lv' := [(4, .int (v4 + (1 : Int32))), (7, .long r5), (0, .ref oB), (1, .long v1), (3, .int v3), (5, .int v5), (6, .int v6)]) hx hb dX0_howMany_69 hl (k := 4) rfl (by rfl) (by decide) rfl (fun ls hl => ?_)
          have hi8 := Option.some.inj hi8
          have e9 : j7 = (v4 + (1 : Int32)) := (congrArg (fun q => q) hi8).symm
          rw [e9] at key9
          exact key9 ls (lv_sub hl [0, 2, 3, 4, 5, 6] rfl)
        · rw [if_pos c11] at hi8
          refine lv_aload_n hx hb dX0_howMany_56 rfl (lv_at hl 1 rfl) ?_
          refine va_get (D := D) (ci := 0) (v := .ref oF) (C := RX0) (T := TX0) (N := 6) hx hb hts tnX0 hown hK hP 0 rfl rfl 0 (by decide) (hts _ qw_262) (fun _ h9 => h9) rfl dX0_howMany_57 ?_
          refine lv_lload hx hb dX0_howMany_60 (lv_at hl 0 rfl) ?_
          refine lv_lload_n hx hb dX0_howMany_62 rfl (lv_at hl 2 rfl) ?_
          obtain ⟨r12, h13, hi8⟩ := jb_out hi8
          refine kX1_canWiden ⟨hx, hb, hml, hown, hts⟩ qw_271 (hP.sub (ws' := (wdF cI cJ oF oFr oFs oFc oFw fw fc fwh fbo fra fst fco fro)) [2, 3, 4, 5, 6] rfl) hK (stZ_at hZ hSz) h13 hl.1 ⟨Nat.le_trans (by decide) hR.1, Nat.le_trans (by decide) hR.2.1, hR.2.2⟩ (Nat.le_of_ble_eq_true rfl) dX0_howMany_63 ?_
          refine lv_if_ne (tgt := 72) hx hb dX0_howMany_66 (by decide) (fun c14 => ?_) (fun c14 => ?_)
          · rw [if_neg c14] at hi8
            have hi8 := Option.some.inj hi8
            have e9 : j7 = v4 := (congrArg (fun q => q) hi8).symm
            rw [e9] at key9
            exact key9 ls (lv_sub hl [4, 1, 2, 3, 5, 6] rfl)
          · rw [if_pos c14] at hi8
            refine lv_iinc (v := (v4 + (1 : Int32))) (lv' := [(4, .int (v4 + (1 : Int32))), (7, .long r5), (0, .ref oB), (1, .long v1), (3, .int v3), (5, .int v5), (6, .int v6)]) hx hb dX0_howMany_69 hl (k := 4) rfl (by rfl) (by decide) rfl (fun ls hl => ?_)
            have hi8 := Option.some.inj hi8
            have e9 : j7 = (v4 + (1 : Int32)) := (congrArg (fun q => q) hi8).symm
            rw [e9] at key9
            exact key9 ls (lv_sub hl [0, 2, 3, 4, 5, 6] rfl)
set_option maxHeartbeats 4000000 in
set_option maxRecDepth 100000 in
theorem wX0_howMany_L6 {n : Nat} {v1 : Int64} {v3 : Int32} (hx : p.tables.exec = Jvm.exec) (hb : c.code = cX0_howMany) (hml : c.maxLocals = 9) (hown : s.vm.findClass RX0 = some m.cls) (hts : ∀ w ∈ tw, w.before args s = true) (hK : va_K D vwCl [(cI, .int), (cJ, .long)] s) (hP : va_P D vwCl (wdB cJ cI oB oBw oF oFr oFs oFc oFw bsz bfi bla bar bwi fw fc fwh fbo fra fst fco fro) H) (hZ : stZ (fun _ => False) tS tA s s.heap) (hSz : va_S (fun _ => False) s.heap H locs) (hR : 2 ≤ R.frames ∧ 55 ≤ R.locals ∧ cells ≤ R.cells ∧ slots ≤ R.slots) : ∀ (k : Nat) (v4 : Int32) (v5 : Int32) (x4 : Int32), mX0_howMany_L6 n fc fco fro fw v1 v3 fst fra k v4 v5 = some (x4) → ∀ ls : Array Slot, lv_has ls 9 [(0, .ref oB), (1, .long v1), (3, .int v3), (4, .int v4), (5, .int v5)] → (∀ ls : Array Slot, lv_has ls 9 [(4, .int x4)] → W p l e R s m args below meth c H locs cells slots Q (F0 m 84 ls [])) → W p l e R s m args below meth c H locs cells slots Q (F0 m 6 ls []) := by
  intro k
  induction k with
  | zero => intro v4 v5 x4 hm; rw [mX0_howMany_L6] at hm; cases hm
  | succ k ih =>
    intro v4 v5 x4 hm ls hl K0
    rw [mX0_howMany_L6] at hm
    refine lv_iload hx hb dX0_howMany_6 (lv_at hl 4 rfl) ?_
    refine lv_aload_n hx hb dX0_howMany_8 rfl (lv_at hl 0 rfl) ?_
    refine va_get (D := D) (ci := 0) (v := .ref oF) (C := RX0) (T := TX0) (N := 6) hx hb hts tnX0 hown hK hP 0 rfl rfl 0 (by decide) (hts _ qw_262) (fun _ h9 => h9) rfl dX0_howMany_9 ?_
    refine va_get (D := D) (ci := 1) (v := .int fc) (C := RX1) (T := TX1) (N := 8) hx hb hts tnX1 hown hK hP 2 rfl rfl 1 (by decide) (hts _ qw_269) (fun _ h9 => h9) rfl dX0_howMany_12 ?_
    refine lv_icmp_ge (tgt := 84) hx hb dX0_howMany_15 (by decide) (fun c2 => ?_) (fun c2 => ?_)
    · rw [if_pos c2] at hm
      have hm := Option.some.inj hm
      have e9 : x4 = v4 := (congrArg (fun q => q) hm).symm
      rw [e9] at K0
      exact K0 ls (lv_sub hl [3] rfl)
    · rw [if_neg c2] at hm
      refine lv_iload hx hb dX0_howMany_18 (lv_at hl 4 rfl) ?_
      refine lv_istore (lv' := [(6, .int v5), (0, .ref oB), (1, .long v1), (3, .int v3), (4, .int v4), (5, .int v5)]) hx hb dX0_howMany_20 hl (by decide) rfl (fun ls hl => ?_)
      obtain ⟨y15, h16, hm⟩ := jb_out hm
      refine wX0_howMany_L22 hx hb hml hown hts hK hP hZ hSz hR n _ _ _  h16 ls (lv_sub hl [1, 2, 3, 4, 5, 0] rfl) (fun ls hl => ?_)
      refine lv_iinc (v := (v5 + (1 : Int32))) (lv' := [(5, .int (v5 + (1 : Int32))), (4, .int y15), (0, .ref oB), (1, .long v1), (3, .int v3)]) hx hb dX0_howMany_78 hl (k := 4) rfl (by rfl) (by decide) rfl (fun ls hl => ?_)
      refine lv_goto (tgt := 6) hx hb dX0_howMany_81 (by decide) ?_
      exact ih _ _ _ hm ls (lv_sub hl [2, 3, 4, 1, 0] rfl) K0
set_option maxHeartbeats 4000000 in
set_option maxRecDepth 100000 in
theorem bX0_howMany {n : Nat} {a1 : Int64} {a3 : Int32} {r : Int32} (hx : p.tables.exec = Jvm.exec) (hb : c.code = cX0_howMany) (hml : c.maxLocals = 9) (hown : s.vm.findClass RX0 = some m.cls) (hts : ∀ w ∈ tw, w.before args s = true) (hK : va_K D vwCl [(cI, .int), (cJ, .long)] s) (hP : va_P D vwCl (wdB cJ cI oB oBw oF oFr oFs oFc oFw bsz bfi bla bar bwi fw fc fwh fbo fra fst fco fro) H) (hZ : stZ (fun _ => False) tS tA s s.heap) (hSz : va_S (fun _ => False) s.heap H locs) (hR : 2 ≤ R.frames ∧ 55 ≤ R.locals ∧ cells ≤ R.cells ∧ slots ≤ R.slots) (hm : mX0_howMany n fc fco fro fw fst fra a1 a3 = some r) (ls : Array Slot) (hl : lv_has ls 9 [(0, .ref oB), (1, .long a1), (3, .int a3)]) (K : ∀ (pc : Nat) (ls : Array Slot), decode cX0_howMany pc = .ok (.ireturn, 1) → W p l e R s m args below meth c H locs cells slots Q (F0 m pc ls [.int r])) : W p l e R s m args below meth c H locs cells slots Q (F0 m 0 ls []) := by
  unfold mX0_howMany at hm
  refine lv_iconst (v := (0 : Int32)) hx hb dX0_howMany_0 (by decide) ?_
  refine lv_istore (lv' := [(4, .int (0 : Int32)), (0, .ref oB), (1, .long a1), (3, .int a3)]) hx hb dX0_howMany_1 hl (by decide) rfl (fun ls hl => ?_)
  refine lv_iconst (v := (0 : Int32)) hx hb dX0_howMany_3 (by decide) ?_
  refine lv_istore (lv' := [(5, .int (0 : Int32)), (4, .int (0 : Int32)), (0, .ref oB), (1, .long a1), (3, .int a3)]) hx hb dX0_howMany_4 hl (by decide) rfl (fun ls hl => ?_)
  obtain ⟨y17, h18, hm⟩ := jb_out hm
  refine wX0_howMany_L6 hx hb hml hown hts hK hP hZ hSz hR n _ _ _  h18 ls (lv_sub hl [2, 3, 4, 1, 0] rfl) (fun ls hl => ?_)
  refine lv_iload hx hb dX0_howMany_84 (lv_at hl 0 rfl) ?_
  have hm := Option.some.inj hm
  subst hm
  exact K 86 ls dX0_howMany_86
set_option maxHeartbeats 4000000 in
set_option maxRecDepth 100000 in
theorem tX0_howMany (l : Launch) {D : va_G} {n : Nat} {a1 : Int64} {a3 : Int32} {r : Int32} (hm : mX0_howMany n fc fco fro fw fst fra a1 a3 = some r) : Met l yX0_howMany (.code yX0_howMany cX0_howMany 9 (some .int) :: tw) ({ frames := 2, cells := 0, slots := 0, locals := 55 } : Room) (rdZ D [.ref oB, .long a1, .int a3] (wdB cJ cI oB oBw oF oFr oFs oFc oFw bsz bfi bla bar bwi fw fc fwh fbo fra fst fco fro) [(cI, .int), (cJ, .long)] tS tA) (vp_Si (fun q => q = r)) 0 0 (fun _ => False) := by
  refine Met.ofW (cc := cX0_howMany) (maxL := 9) (ret := (some .int)) (by decide) rfl ?_
  intro p e s m args below meth c s₁ B hml hv
  obtain ⟨rfl, hP, hK, hZ⟩ := hv
  have hx := B.exec
  have hb := B.bytes
  have hr := B.returns
  have hts : ∀ w ∈ tw, w.before _ s = true := fun w h => atoms_spec (ws := .code yX0_howMany cX0_howMany 9 (some .int) :: tw) B.pre w (List.mem_cons_of_mem _ h)
  have hown : s.vm.findClass RX0 = some m.cls := findClass_of_methodNamed B.named
  have hlocks := B.notSynchronized
  have hl := lv_entry ([.ref oB, .long a1, .int a3]) (n := 9) (Nat.le_of_ble_eq_true rfl)
  rw [lg_entry_eq]
  generalize (lg_sl ([.ref oB, .long a1, .int a3]) ++ List.replicate (9 - (lg_sl ([.ref oB, .long a1, .int a3])).length) Slot.unset).toArray = ls at hl ⊢
  refine bX0_howMany hx hb hml hown hts hK hP hZ va_S.rf ⟨Nat.le_of_ble_eq_true rfl, Nat.le_of_ble_eq_true rfl, Nat.zero_le _, Nat.zero_le _⟩ hm ls hl (fun pc ls hd => ?_)
  exact W.iret hx hb hr (fun t ht hW => ⟨r, rfl, rfl, ht⟩) (fun q h => by cases h) hd
set_option maxHeartbeats 4000000 in
set_option maxRecDepth 100000 in
theorem kX0_howMany {own : String} {cc : ByteArray} {nL idx pc : Nat} {ls : Array Slot} {rest : List Value} {n : Nat} {a1 : Int64} {a3 : Int32} {r : Int32} (fx : CallFix p m c cc nL s args tw own) (hq : Cond.methodLink own idx yX0_howMany ∈ tw) (hP : va_P D vwCl (wdB cJ cI oB oBw oF oFr oFs oFc oFw bsz bfi bla bar bwi fw fc fwh fbo fra fst fco fro) H) (hK : va_K D vwCl [(cI, .int), (cJ, .long)] s) (hz : stZ (fun _ => False) tS tA s H) (hm : mX0_howMany n fc fco fro fw fst fra a1 a3 = some r) (hsz : ls.size = nL) (hR : 3 ≤ R.frames ∧ 83 ≤ R.locals ∧ cells ≤ R.cells ∧ slots ≤ R.slots) (hst : (rest.map fun v => v.category).sum ≤ 8) (hd : decode cc pc = .ok (.invokevirtual idx, 3)) (kk : W p l e R s m args below meth c H locs cells slots Q (F0 m (pc + 3) ls (.int r :: rest))) : W p l e R s m args below meth c H locs cells slots Q (F0 m pc ls (.int a3 :: .long a1 :: .ref oB :: rest)) := by
  exact vp_callSi (va_Run.run (va_runV (As := [.long a1, .int a3]) (rest := rest) fx (tX0_howMany l hm) (cwV 2 fx.2.2.2.2 (tw_V hq qw_272 qw_273 qw_267 qw_274) rfl rfl rfl (by decide +kernel) ⟨hR.1, hR.2.1⟩) ⟨rdZ_bl, va_recv hK hP (ci := 0) (q0 := 0) rfl rfl, rdZ_ok hP hK hz⟩ rfl rfl hsz rfl (lv_room hst) hd ⟨hR.2.2.1, hR.2.2.2⟩)) (fun r9 hr9 => by first | (rw [hr9]; exact kk) | (rw [hr9.1]; exact kk))
-- X0_howManyWidestAt
def mX0_howManyWidestAt_L15 (n : Nat) (fc : Int32) (fco : Nat → Int32) (fro : Nat → Int32) (fw : Int32) (v5 : Int32) (v1 : Int64) (v3 : Int32) (fst : Nat → Int64) (fra : Nat → Int32) : Nat → (Int32) → (Int32) → Option ((Int32))
  | 0, _, _ => none
  | k + 1, v4, v6 => (if fc ≤ v6 then some (v4) else jb (mX0_between n fco fro fw v5 v6 v1) (fun (r5 : Int64) => jb (if ((jlushr r5 v3) &&& (1 : Int64)) = (0 : Int64) then (some (v4)) else jb (mX1_canWiden n fst fra r5 v1) (fun (r11 : Int32) => (if r11 = 0 then (some ((v4 + (1 : Int32)))) else (some (v4))))) (fun (j7 : Int32) => mX0_howManyWidestAt_L15 n fc fco fro fw v5 v1 v3 fst fra k j7 (v6 + (1 : Int32)))))
def mX0_howManyWidestAt_L6 (n : Nat) (v3 : Int32) (fc : Int32) (fco : Nat → Int32) (fro : Nat → Int32) (fw : Int32) (v1 : Int64) (fst : Nat → Int64) (fra : Nat → Int32) : Nat → (Int32) → (Int32) → Option ((Int32))
  | 0, _, _ => none
  | k + 1, v4, v5 => (if v3 < v5 then some (v4) else jb (mX0_howManyWidestAt_L15 n fc fco fro fw v5 v1 v3 fst fra n v4 v3) (fun (y14 : Int32) => mX0_howManyWidestAt_L6 n v3 fc fco fro fw v1 fst fra k y14 (v5 + (1 : Int32))))
def mX0_howManyWidestAt (n : Nat) (fc : Int32) (fco : Nat → Int32) (fro : Nat → Int32) (fw : Int32) (fst : Nat → Int64) (fra : Nat → Int32) (a1 : Int64) (a3 : Int32) : Option Int32 :=
  jb (mX0_howManyWidestAt_L6 n a3 fc fco fro fw a1 fst fra n (0 : Int32) (0 : Int32)) (fun (y16 : Int32) => (some y16))
theorem dX0_howManyWidestAt_0 : decode cX0_howManyWidestAt 0 = .ok (.iconst 0, 1) := by decide +kernel
theorem dX0_howManyWidestAt_1 : decode cX0_howManyWidestAt 1 = .ok (.istore 4, 2) := by decide +kernel
theorem dX0_howManyWidestAt_3 : decode cX0_howManyWidestAt 3 = .ok (.iconst 0, 1) := by decide +kernel
theorem dX0_howManyWidestAt_4 : decode cX0_howManyWidestAt 4 = .ok (.istore 5, 2) := by decide +kernel
theorem dX0_howManyWidestAt_6 : decode cX0_howManyWidestAt 6 = .ok (.iload 5, 2) := by decide +kernel
theorem dX0_howManyWidestAt_8 : decode cX0_howManyWidestAt 8 = .ok (.iload_n 3, 1) := by decide +kernel
theorem dX0_howManyWidestAt_9 : decode cX0_howManyWidestAt 9 = .ok (.if_icmp .gt 68, 3) := by decide +kernel
theorem dX0_howManyWidestAt_12 : decode cX0_howManyWidestAt 12 = .ok (.iload_n 3, 1) := by decide +kernel
theorem dX0_howManyWidestAt_13 : decode cX0_howManyWidestAt 13 = .ok (.istore 6, 2) := by decide +kernel
theorem dX0_howManyWidestAt_15 : decode cX0_howManyWidestAt 15 = .ok (.iload 6, 2) := by decide +kernel
theorem dX0_howManyWidestAt_17 : decode cX0_howManyWidestAt 17 = .ok (.aload_n 0, 1) := by decide +kernel
theorem dX0_howManyWidestAt_18 : decode cX0_howManyWidestAt 18 = .ok (.getfield 28, 3) := by decide +kernel
theorem dX0_howManyWidestAt_21 : decode cX0_howManyWidestAt 21 = .ok (.getfield 40, 3) := by decide +kernel
theorem dX0_howManyWidestAt_24 : decode cX0_howManyWidestAt 24 = .ok (.if_icmp .ge 47, 3) := by decide +kernel
theorem dX0_howManyWidestAt_27 : decode cX0_howManyWidestAt 27 = .ok (.aload_n 0, 1) := by decide +kernel
theorem dX0_howManyWidestAt_28 : decode cX0_howManyWidestAt 28 = .ok (.iload 5, 2) := by decide +kernel
theorem dX0_howManyWidestAt_30 : decode cX0_howManyWidestAt 30 = .ok (.iload 6, 2) := by decide +kernel
theorem dX0_howManyWidestAt_32 : decode cX0_howManyWidestAt 32 = .ok (.lload_n 1, 1) := by decide +kernel
theorem dX0_howManyWidestAt_33 : decode cX0_howManyWidestAt 33 = .ok (.invokevirtual 43, 3) := by decide +kernel
theorem dX0_howManyWidestAt_36 : decode cX0_howManyWidestAt 36 = .ok (.lstore 7, 2) := by decide +kernel
theorem dX0_howManyWidestAt_38 : decode cX0_howManyWidestAt 38 = .ok (.lload 7, 2) := by decide +kernel
theorem dX0_howManyWidestAt_40 : decode cX0_howManyWidestAt 40 = .ok (.iload_n 3, 1) := by decide +kernel
theorem dX0_howManyWidestAt_41 : decode cX0_howManyWidestAt 41 = .ok (.lushr, 1) := by decide +kernel
theorem dX0_howManyWidestAt_42 : decode cX0_howManyWidestAt 42 = .ok (.lconst 1, 1) := by decide +kernel
theorem dX0_howManyWidestAt_43 : decode cX0_howManyWidestAt 43 = .ok (.land, 1) := by decide +kernel
theorem dX0_howManyWidestAt_44 : decode cX0_howManyWidestAt 44 = .ok (.lconst 0, 1) := by decide +kernel
theorem dX0_howManyWidestAt_45 : decode cX0_howManyWidestAt 45 = .ok (.lcmp, 1) := by decide +kernel
theorem dX0_howManyWidestAt_46 : decode cX0_howManyWidestAt 46 = .ok (.ifCond .eq 19, 3) := by decide +kernel
theorem dX0_howManyWidestAt_49 : decode cX0_howManyWidestAt 49 = .ok (.aload_n 0, 1) := by decide +kernel
theorem dX0_howManyWidestAt_50 : decode cX0_howManyWidestAt 50 = .ok (.getfield 28, 3) := by decide +kernel
theorem dX0_howManyWidestAt_53 : decode cX0_howManyWidestAt 53 = .ok (.lload 7, 2) := by decide +kernel
theorem dX0_howManyWidestAt_55 : decode cX0_howManyWidestAt 55 = .ok (.lload_n 1, 1) := by decide +kernel
theorem dX0_howManyWidestAt_56 : decode cX0_howManyWidestAt 56 = .ok (.invokevirtual 47, 3) := by decide +kernel
theorem dX0_howManyWidestAt_59 : decode cX0_howManyWidestAt 59 = .ok (.ifCond .ne 6, 3) := by decide +kernel
theorem dX0_howManyWidestAt_62 : decode cX0_howManyWidestAt 62 = .ok (.iinc 4 1, 3) := by decide +kernel
theorem dX0_howManyWidestAt_65 : decode cX0_howManyWidestAt 65 = .ok (.iinc 6 1, 3) := by decide +kernel
theorem dX0_howManyWidestAt_68 : decode cX0_howManyWidestAt 68 = .ok (.goto (-53), 3) := by decide +kernel
theorem dX0_howManyWidestAt_71 : decode cX0_howManyWidestAt 71 = .ok (.iinc 5 1, 3) := by decide +kernel
theorem dX0_howManyWidestAt_74 : decode cX0_howManyWidestAt 74 = .ok (.goto (-68), 3) := by decide +kernel
theorem dX0_howManyWidestAt_77 : decode cX0_howManyWidestAt 77 = .ok (.iload 4, 2) := by decide +kernel
theorem dX0_howManyWidestAt_79 : decode cX0_howManyWidestAt 79 = .ok (.ireturn, 1) := by decide +kernel
set_option maxHeartbeats 4000000 in
set_option maxRecDepth 100000 in
theorem wX0_howManyWidestAt_L15 {n : Nat} {v1 : Int64} {v3 : Int32} {v5 : Int32} (hx : p.tables.exec = Jvm.exec) (hb : c.code = cX0_howManyWidestAt) (hml : c.maxLocals = 9) (hown : s.vm.findClass RX0 = some m.cls) (hts : ∀ w ∈ tw, w.before args s = true) (hK : va_K D vwCl [(cI, .int), (cJ, .long)] s) (hP : va_P D vwCl (wdB cJ cI oB oBw oF oFr oFs oFc oFw bsz bfi bla bar bwi fw fc fwh fbo fra fst fco fro) H) (hZ : stZ (fun _ => False) tS tA s s.heap) (hSz : va_S (fun _ => False) s.heap H locs) (hR : 2 ≤ R.frames ∧ 55 ≤ R.locals ∧ cells ≤ R.cells ∧ slots ≤ R.slots) : ∀ (k : Nat) (v4 : Int32) (v6 : Int32) (x4 : Int32), mX0_howManyWidestAt_L15 n fc fco fro fw v5 v1 v3 fst fra k v4 v6 = some (x4) → ∀ ls : Array Slot, lv_has ls 9 [(0, .ref oB), (1, .long v1), (3, .int v3), (4, .int v4), (5, .int v5), (6, .int v6)] → (∀ ls : Array Slot, lv_has ls 9 [(4, .int x4), (0, .ref oB), (1, .long v1), (3, .int v3), (5, .int v5)] → W p l e R s m args below meth c H locs cells slots Q (F0 m 71 ls [])) → W p l e R s m args below meth c H locs cells slots Q (F0 m 15 ls []) := by
  intro k
  induction k with
  | zero => intro v4 v6 x4 hm; rw [mX0_howManyWidestAt_L15] at hm; cases hm
  | succ k ih =>
    intro v4 v6 x4 hm ls hl K0
    rw [mX0_howManyWidestAt_L15] at hm
    refine lv_iload hx hb dX0_howManyWidestAt_15 (lv_at hl 5 rfl) ?_
    refine lv_aload_n hx hb dX0_howManyWidestAt_17 rfl (lv_at hl 0 rfl) ?_
    refine va_get (D := D) (ci := 0) (v := .ref oF) (C := RX0) (T := TX0) (N := 6) hx hb hts tnX0 hown hK hP 0 rfl rfl 0 (by decide) (hts _ qw_262) (fun _ h9 => h9) rfl dX0_howManyWidestAt_18 ?_
    refine va_get (D := D) (ci := 1) (v := .int fc) (C := RX1) (T := TX1) (N := 8) hx hb hts tnX1 hown hK hP 2 rfl rfl 1 (by decide) (hts _ qw_269) (fun _ h9 => h9) rfl dX0_howManyWidestAt_21 ?_
    refine lv_icmp_ge (tgt := 71) hx hb dX0_howManyWidestAt_24 (by decide) (fun c4 => ?_) (fun c4 => ?_)
    · rw [if_pos c4] at hm
      have hm := Option.some.inj hm
      have e9 : x4 = v4 := (congrArg (fun q => q) hm).symm
      rw [e9] at K0
      exact K0 ls (lv_sub hl [3, 0, 1, 2, 4] rfl)
    · rw [if_neg c4] at hm
      refine lv_aload_n hx hb dX0_howManyWidestAt_27 rfl (lv_at hl 0 rfl) ?_
      refine lv_iload hx hb dX0_howManyWidestAt_28 (lv_at hl 4 rfl) ?_
      refine lv_iload hx hb dX0_howManyWidestAt_30 (lv_at hl 5 rfl) ?_
      refine lv_lload_n hx hb dX0_howManyWidestAt_32 rfl (lv_at hl 1 rfl) ?_
      obtain ⟨r5, h6, hm⟩ := jb_out hm
      refine kX0_between ⟨hx, hb, hml, hown, hts⟩ qw_270 hP hK h6 hl.1 ⟨Nat.le_trans (by decide) hR.1, Nat.le_trans (by decide) hR.2.1, hR.2.2⟩ (Nat.le_of_ble_eq_true rfl) dX0_howManyWidestAt_33 ?_
      refine lv_lstore (lv' := [(7, .long r5), (0, .ref oB), (1, .long v1), (3, .int v3), (4, .int v4), (5, .int v5), (6, .int v6)]) hx hb dX0_howManyWidestAt_36 hl (by decide) rfl (fun ls hl => ?_)
      refine lv_lload hx hb dX0_howManyWidestAt_38 (lv_at hl 0 rfl) ?_
      refine lv_iload_n hx hb dX0_howManyWidestAt_40 rfl (lv_at hl 3 rfl) ?_
      refine lv_lushr (v := (jlushr r5 v3)) hx hb dX0_howManyWidestAt_41 rfl ?_
      refine lv_lconst (v := (1 : Int64)) hx hb dX0_howManyWidestAt_42 (by decide) ?_
      refine lv_land hx hb dX0_howManyWidestAt_43 ?_
      refine lv_lconst (v := (0 : Int64)) hx hb dX0_howManyWidestAt_44 (by decide) ?_
      refine W.lcmp hx hb dX0_howManyWidestAt_45 ?_
      obtain ⟨j7, hi8, hm⟩ := jb_out hm
      have key9 : ∀ (ls : Array Slot), lv_has ls 9 [(4, .int j7), (0, .ref oB), (1, .long v1), (3, .int v3), (5, .int v5), (6, .int v6)] → W p l e R s m args below meth c H locs cells slots Q (F0 m 65 ls []) := by
        intro ls hl
        refine lv_iinc (v := (v6 + (1 : Int32))) (lv' := [(6, .int (v6 + (1 : Int32))), (4, .int j7), (0, .ref oB), (1, .long v1), (3, .int v3), (5, .int v5)]) hx hb dX0_howManyWidestAt_65 hl (k := 5) rfl (by rfl) (by decide) rfl (fun ls hl => ?_)
        refine lv_goto (tgt := 15) hx hb dX0_howManyWidestAt_68 (by decide) ?_
        exact ih _ _ _ hm ls (lv_sub hl [2, 3, 4, 1, 5, 0] rfl) K0
      refine lv_if_eq (tgt := 65) hx hb dX0_howManyWidestAt_46 (by decide) (fun c10 => ?_) (fun c10 => ?_)
      · have c10 := (lg_cmp_eq ((jlushr r5 v3) &&& (1 : Int64)) (0 : Int64)).mp c10
        rw [if_pos c10] at hi8
        have hi8 := Option.some.inj hi8
        have e9 : j7 = v4 := (congrArg (fun q => q) hi8).symm
        rw [e9] at key9
        exact key9 ls (lv_sub hl [4, 1, 2, 3, 5, 6] rfl)
      · have c10 := fun h9 => c10 ((lg_cmp_eq ((jlushr r5 v3) &&& (1 : Int64)) (0 : Int64)).mpr h9)
        rw [if_neg c10] at hi8
        refine lv_aload_n hx hb dX0_howManyWidestAt_49 rfl (lv_at hl 1 rfl) ?_
        refine va_get (D := D) (ci := 0) (v := .ref oF) (C := RX0) (T := TX0) (N := 6) hx hb hts tnX0 hown hK hP 0 rfl rfl 0 (by decide) (hts _ qw_262) (fun _ h9 => h9) rfl dX0_howManyWidestAt_50 ?_
        refine lv_lload hx hb dX0_howManyWidestAt_53 (lv_at hl 0 rfl) ?_
        refine lv_lload_n hx hb dX0_howManyWidestAt_55 rfl (lv_at hl 2 rfl) ?_
        obtain ⟨r11, h12, hi8⟩ := jb_out hi8
        refine kX1_canWiden ⟨hx, hb, hml, hown, hts⟩ qw_271 (hP.sub (ws' := (wdF cI cJ oF oFr oFs oFc oFw fw fc fwh fbo fra fst fco fro)) [2, 3, 4, 5, 6] rfl) hK (stZ_at hZ hSz) h12 hl.1 ⟨Nat.le_trans (by decide) hR.1, Nat.le_trans (by decide) hR.2.1, hR.2.2⟩ (Nat.le_of_ble_eq_true rfl) dX0_howManyWidestAt_56 ?_
        refine lv_if_ne (tgt := 65) hx hb dX0_howManyWidestAt_59 (by decide) (fun c13 => ?_) (fun c13 => ?_)
        · rw [if_neg c13] at hi8
          have hi8 := Option.some.inj hi8
          have e9 : j7 = v4 := (congrArg (fun q => q) hi8).symm
          rw [e9] at key9
          exact key9 ls (lv_sub hl [4, 1, 2, 3, 5, 6] rfl)
        · rw [if_pos c13] at hi8
          refine lv_iinc (v := (v4 + (1 : Int32))) (lv' := [(4, .int (v4 + (1 : Int32))), (7, .long r5), (0, .ref oB), (1, .long v1), (3, .int v3), (5, .int v5), (6, .int v6)]) hx hb dX0_howManyWidestAt_62 hl (k := 4) rfl (by rfl) (by decide) rfl (fun ls hl => ?_)
          have hi8 := Option.some.inj hi8
          have e9 : j7 = (v4 + (1 : Int32)) := (congrArg (fun q => q) hi8).symm
          rw [e9] at key9
          exact key9 ls (lv_sub hl [0, 2, 3, 4, 5, 6] rfl)
set_option maxHeartbeats 4000000 in
set_option maxRecDepth 100000 in
theorem wX0_howManyWidestAt_L6 {n : Nat} {v1 : Int64} {v3 : Int32} (hx : p.tables.exec = Jvm.exec) (hb : c.code = cX0_howManyWidestAt) (hml : c.maxLocals = 9) (hown : s.vm.findClass RX0 = some m.cls) (hts : ∀ w ∈ tw, w.before args s = true) (hK : va_K D vwCl [(cI, .int), (cJ, .long)] s) (hP : va_P D vwCl (wdB cJ cI oB oBw oF oFr oFs oFc oFw bsz bfi bla bar bwi fw fc fwh fbo fra fst fco fro) H) (hZ : stZ (fun _ => False) tS tA s s.heap) (hSz : va_S (fun _ => False) s.heap H locs) (hR : 2 ≤ R.frames ∧ 55 ≤ R.locals ∧ cells ≤ R.cells ∧ slots ≤ R.slots) : ∀ (k : Nat) (v4 : Int32) (v5 : Int32) (x4 : Int32), mX0_howManyWidestAt_L6 n v3 fc fco fro fw v1 fst fra k v4 v5 = some (x4) → ∀ ls : Array Slot, lv_has ls 9 [(0, .ref oB), (1, .long v1), (3, .int v3), (4, .int v4), (5, .int v5)] → (∀ ls : Array Slot, lv_has ls 9 [(4, .int x4)] → W p l e R s m args below meth c H locs cells slots Q (F0 m 77 ls [])) → W p l e R s m args below meth c H locs cells slots Q (F0 m 6 ls []) := by
  intro k
  induction k with
  | zero => intro v4 v5 x4 hm; rw [mX0_howManyWidestAt_L6] at hm; cases hm
  | succ k ih =>
    intro v4 v5 x4 hm ls hl K0
    rw [mX0_howManyWidestAt_L6] at hm
    refine lv_iload hx hb dX0_howManyWidestAt_6 (lv_at hl 4 rfl) ?_
    refine lv_iload_n hx hb dX0_howManyWidestAt_8 rfl (lv_at hl 2 rfl) ?_
    refine lv_icmp_gt (tgt := 77) hx hb dX0_howManyWidestAt_9 (by decide) (fun c2 => ?_) (fun c2 => ?_)
    · rw [if_pos c2] at hm
      have hm := Option.some.inj hm
      have e9 : x4 = v4 := (congrArg (fun q => q) hm).symm
      rw [e9] at K0
      exact K0 ls (lv_sub hl [3] rfl)
    · rw [if_neg c2] at hm
      refine lv_iload_n hx hb dX0_howManyWidestAt_12 rfl (lv_at hl 2 rfl) ?_
      refine lv_istore (lv' := [(6, .int v3), (0, .ref oB), (1, .long v1), (3, .int v3), (4, .int v4), (5, .int v5)]) hx hb dX0_howManyWidestAt_13 hl (by decide) rfl (fun ls hl => ?_)
      obtain ⟨y14, h15, hm⟩ := jb_out hm
      refine wX0_howManyWidestAt_L15 hx hb hml hown hts hK hP hZ hSz hR n _ _ _  h15 ls (lv_sub hl [1, 2, 3, 4, 5, 0] rfl) (fun ls hl => ?_)
      refine lv_iinc (v := (v5 + (1 : Int32))) (lv' := [(5, .int (v5 + (1 : Int32))), (4, .int y14), (0, .ref oB), (1, .long v1), (3, .int v3)]) hx hb dX0_howManyWidestAt_71 hl (k := 4) rfl (by rfl) (by decide) rfl (fun ls hl => ?_)
      refine lv_goto (tgt := 6) hx hb dX0_howManyWidestAt_74 (by decide) ?_
      exact ih _ _ _ hm ls (lv_sub hl [2, 3, 4, 1, 0] rfl) K0
set_option maxHeartbeats 4000000 in
set_option maxRecDepth 100000 in
theorem bX0_howManyWidestAt {n : Nat} {a1 : Int64} {a3 : Int32} {r : Int32} (hx : p.tables.exec = Jvm.exec) (hb : c.code = cX0_howManyWidestAt) (hml : c.maxLocals = 9) (hown : s.vm.findClass RX0 = some m.cls) (hts : ∀ w ∈ tw, w.before args s = true) (hK : va_K D vwCl [(cI, .int), (cJ, .long)] s) (hP : va_P D vwCl (wdB cJ cI oB oBw oF oFr oFs oFc oFw bsz bfi bla bar bwi fw fc fwh fbo fra fst fco fro) H) (hZ : stZ (fun _ => False) tS tA s s.heap) (hSz : va_S (fun _ => False) s.heap H locs) (hR : 2 ≤ R.frames ∧ 55 ≤ R.locals ∧ cells ≤ R.cells ∧ slots ≤ R.slots) (hm : mX0_howManyWidestAt n fc fco fro fw fst fra a1 a3 = some r) (ls : Array Slot) (hl : lv_has ls 9 [(0, .ref oB), (1, .long a1), (3, .int a3)]) (K : ∀ (pc : Nat) (ls : Array Slot), decode cX0_howManyWidestAt pc = .ok (.ireturn, 1) → W p l e R s m args below meth c H locs cells slots Q (F0 m pc ls [.int r])) : W p l e R s m args below meth c H locs cells slots Q (F0 m 0 ls []) := by
  unfold mX0_howManyWidestAt at hm
  refine lv_iconst (v := (0 : Int32)) hx hb dX0_howManyWidestAt_0 (by decide) ?_
  refine lv_istore (lv' := [(4, .int (0 : Int32)), (0, .ref oB), (1, .long a1), (3, .int a3)]) hx hb dX0_howManyWidestAt_1 hl (by decide) rfl (fun ls hl => ?_)
  refine lv_iconst (v := (0 : Int32)) hx hb dX0_howManyWidestAt_3 (by decide) ?_
  refine lv_istore (lv' := [(5, .int (0 : Int32)), (4, .int (0 : Int32)), (0, .ref oB), (1, .long a1), (3, .int a3)]) hx hb dX0_howManyWidestAt_4 hl (by decide) rfl (fun ls hl => ?_)
  obtain ⟨y16, h17, hm⟩ := jb_out hm
  refine wX0_howManyWidestAt_L6 hx hb hml hown hts hK hP hZ hSz hR n _ _ _  h17 ls (lv_sub hl [2, 3, 4, 1, 0] rfl) (fun ls hl => ?_)
  refine lv_iload hx hb dX0_howManyWidestAt_77 (lv_at hl 0 rfl) ?_
  have hm := Option.some.inj hm
  subst hm
  exact K 79 ls dX0_howManyWidestAt_79
set_option maxHeartbeats 4000000 in
set_option maxRecDepth 100000 in
theorem tX0_howManyWidestAt (l : Launch) {D : va_G} {n : Nat} {a1 : Int64} {a3 : Int32} {r : Int32} (hm : mX0_howManyWidestAt n fc fco fro fw fst fra a1 a3 = some r) : Met l yX0_howManyWidestAt (.code yX0_howManyWidestAt cX0_howManyWidestAt 9 (some .int) :: tw) ({ frames := 2, cells := 0, slots := 0, locals := 55 } : Room) (rdZ D [.ref oB, .long a1, .int a3] (wdB cJ cI oB oBw oF oFr oFs oFc oFw bsz bfi bla bar bwi fw fc fwh fbo fra fst fco fro) [(cI, .int), (cJ, .long)] tS tA) (vp_Si (fun q => q = r)) 0 0 (fun _ => False) := by
  refine Met.ofW (cc := cX0_howManyWidestAt) (maxL := 9) (ret := (some .int)) (by decide) rfl ?_
  intro p e s m args below meth c s₁ B hml hv
  obtain ⟨rfl, hP, hK, hZ⟩ := hv
  have hx := B.exec
  have hb := B.bytes
  have hr := B.returns
  have hts : ∀ w ∈ tw, w.before _ s = true := fun w h => atoms_spec (ws := .code yX0_howManyWidestAt cX0_howManyWidestAt 9 (some .int) :: tw) B.pre w (List.mem_cons_of_mem _ h)
  have hown : s.vm.findClass RX0 = some m.cls := findClass_of_methodNamed B.named
  have hlocks := B.notSynchronized
  have hl := lv_entry ([.ref oB, .long a1, .int a3]) (n := 9) (Nat.le_of_ble_eq_true rfl)
  rw [lg_entry_eq]
  generalize (lg_sl ([.ref oB, .long a1, .int a3]) ++ List.replicate (9 - (lg_sl ([.ref oB, .long a1, .int a3])).length) Slot.unset).toArray = ls at hl ⊢
  refine bX0_howManyWidestAt hx hb hml hown hts hK hP hZ va_S.rf ⟨Nat.le_of_ble_eq_true rfl, Nat.le_of_ble_eq_true rfl, Nat.zero_le _, Nat.zero_le _⟩ hm ls hl (fun pc ls hd => ?_)
  exact W.iret hx hb hr (fun t ht hW => ⟨r, rfl, rfl, ht⟩) (fun q h => by cases h) hd
set_option maxHeartbeats 4000000 in
set_option maxRecDepth 100000 in
theorem kX0_howManyWidestAt {own : String} {cc : ByteArray} {nL idx pc : Nat} {ls : Array Slot} {rest : List Value} {n : Nat} {a1 : Int64} {a3 : Int32} {r : Int32} (fx : CallFix p m c cc nL s args tw own) (hq : Cond.methodLink own idx yX0_howManyWidestAt ∈ tw) (hP : va_P D vwCl (wdB cJ cI oB oBw oF oFr oFs oFc oFw bsz bfi bla bar bwi fw fc fwh fbo fra fst fco fro) H) (hK : va_K D vwCl [(cI, .int), (cJ, .long)] s) (hz : stZ (fun _ => False) tS tA s H) (hm : mX0_howManyWidestAt n fc fco fro fw fst fra a1 a3 = some r) (hsz : ls.size = nL) (hR : 3 ≤ R.frames ∧ 83 ≤ R.locals ∧ cells ≤ R.cells ∧ slots ≤ R.slots) (hst : (rest.map fun v => v.category).sum ≤ 8) (hd : decode cc pc = .ok (.invokevirtual idx, 3)) (kk : W p l e R s m args below meth c H locs cells slots Q (F0 m (pc + 3) ls (.int r :: rest))) : W p l e R s m args below meth c H locs cells slots Q (F0 m pc ls (.int a3 :: .long a1 :: .ref oB :: rest)) := by
  exact vp_callSi (va_Run.run (va_runV (As := [.long a1, .int a3]) (rest := rest) fx (tX0_howManyWidestAt l hm) (cwV 2 fx.2.2.2.2 (tw_V hq qw_275 qw_276 qw_267 qw_277) rfl rfl rfl (by decide +kernel) ⟨hR.1, hR.2.1⟩) ⟨rdZ_bl, va_recv hK hP (ci := 0) (q0 := 0) rfl rfl, rdZ_ok hP hK hz⟩ rfl rfl hsz rfl (lv_room hst) hd ⟨hR.2.2.1, hR.2.2.2⟩)) (fun r9 hr9 => by first | (rw [hr9]; exact kk) | (rw [hr9.1]; exact kk))
-- X0_howManyHave
def mX0_howManyHave_L4 (n : Nat) (bsz : Int32) (bwi : Nat → Int64) (v1 : Int32) : Nat → (Int32) → (Int32) → Option ((Int32))
  | 0, _, _ => none
  | k + 1, v2, v3 => (if bsz ≤ v3 then some (v2) else gd (ib v3 210) (mX0_howManyHave_L4 n bsz bwi v1 k (v2 + ((((jlushr (bwi v3.toNatClampNeg) v1) &&& (1 : Int64))).toInt32)) (v3 + (1 : Int32))))
def mX0_howManyHave (n : Nat) (bsz : Int32) (bwi : Nat → Int64) (a1 : Int32) : Option Int32 :=
  jb (mX0_howManyHave_L4 n bsz bwi a1 n (0 : Int32) (0 : Int32)) (fun (y4 : Int32) => (some y4))
theorem dX0_howManyHave_0 : decode cX0_howManyHave 0 = .ok (.iconst 0, 1) := by decide +kernel
theorem dX0_howManyHave_1 : decode cX0_howManyHave 1 = .ok (.istore_n 2, 1) := by decide +kernel
theorem dX0_howManyHave_2 : decode cX0_howManyHave 2 = .ok (.iconst 0, 1) := by decide +kernel
theorem dX0_howManyHave_3 : decode cX0_howManyHave 3 = .ok (.istore_n 3, 1) := by decide +kernel
theorem dX0_howManyHave_4 : decode cX0_howManyHave 4 = .ok (.iload_n 3, 1) := by decide +kernel
theorem dX0_howManyHave_5 : decode cX0_howManyHave 5 = .ok (.aload_n 0, 1) := by decide +kernel
theorem dX0_howManyHave_6 : decode cX0_howManyHave 6 = .ok (.getfield 15, 3) := by decide +kernel
theorem dX0_howManyHave_9 : decode cX0_howManyHave 9 = .ok (.if_icmp .ge 23, 3) := by decide +kernel
theorem dX0_howManyHave_12 : decode cX0_howManyHave 12 = .ok (.iload_n 2, 1) := by decide +kernel
theorem dX0_howManyHave_13 : decode cX0_howManyHave 13 = .ok (.aload_n 0, 1) := by decide +kernel
theorem dX0_howManyHave_14 : decode cX0_howManyHave 14 = .ok (.getfield 11, 3) := by decide +kernel
theorem dX0_howManyHave_17 : decode cX0_howManyHave 17 = .ok (.iload_n 3, 1) := by decide +kernel
theorem dX0_howManyHave_18 : decode cX0_howManyHave 18 = .ok (.laload, 1) := by decide +kernel
theorem dX0_howManyHave_19 : decode cX0_howManyHave 19 = .ok (.iload_n 1, 1) := by decide +kernel
theorem dX0_howManyHave_20 : decode cX0_howManyHave 20 = .ok (.lushr, 1) := by decide +kernel
theorem dX0_howManyHave_21 : decode cX0_howManyHave 21 = .ok (.lconst 1, 1) := by decide +kernel
theorem dX0_howManyHave_22 : decode cX0_howManyHave 22 = .ok (.land, 1) := by decide +kernel
theorem dX0_howManyHave_23 : decode cX0_howManyHave 23 = .ok (.l2i, 1) := by decide +kernel
theorem dX0_howManyHave_24 : decode cX0_howManyHave 24 = .ok (.iadd, 1) := by decide +kernel
theorem dX0_howManyHave_25 : decode cX0_howManyHave 25 = .ok (.istore_n 2, 1) := by decide +kernel
theorem dX0_howManyHave_26 : decode cX0_howManyHave 26 = .ok (.iinc 3 1, 3) := by decide +kernel
theorem dX0_howManyHave_29 : decode cX0_howManyHave 29 = .ok (.goto (-25), 3) := by decide +kernel
theorem dX0_howManyHave_32 : decode cX0_howManyHave 32 = .ok (.iload_n 2, 1) := by decide +kernel
theorem dX0_howManyHave_33 : decode cX0_howManyHave 33 = .ok (.ireturn, 1) := by decide +kernel
set_option maxHeartbeats 4000000 in
set_option maxRecDepth 100000 in
theorem wX0_howManyHave_L4 {n : Nat} {v1 : Int32} (hx : p.tables.exec = Jvm.exec) (hb : c.code = cX0_howManyHave) (hml : c.maxLocals = 4) (hown : s.vm.findClass RX0 = some m.cls) (hts : ∀ w ∈ tw, w.before args s = true) (hK : va_K D vwCl [(cI, .int), (cJ, .long)] s) (hP : va_P D vwCl (wdB cJ cI oB oBw oF oFr oFs oFc oFw bsz bfi bla bar bwi fw fc fwh fbo fra fst fco fro) H) (hR : 0 ≤ R.frames ∧ 0 ≤ R.locals ∧ cells ≤ R.cells ∧ slots ≤ R.slots) : ∀ (k : Nat) (v2 : Int32) (v3 : Int32) (x2 : Int32), mX0_howManyHave_L4 n bsz bwi v1 k v2 v3 = some (x2) → ∀ ls : Array Slot, lv_has ls 4 [(0, .ref oB), (1, .int v1), (2, .int v2), (3, .int v3)] → (∀ ls : Array Slot, lv_has ls 4 [(2, .int x2)] → W p l e R s m args below meth c H locs cells slots Q (F0 m 32 ls [])) → W p l e R s m args below meth c H locs cells slots Q (F0 m 4 ls []) := by
  intro k
  induction k with
  | zero => intro v2 v3 x2 hm; rw [mX0_howManyHave_L4] at hm; cases hm
  | succ k ih =>
    intro v2 v3 x2 hm ls hl K0
    rw [mX0_howManyHave_L4] at hm
    refine lv_iload_n hx hb dX0_howManyHave_4 rfl (lv_at hl 3 rfl) ?_
    refine lv_aload_n hx hb dX0_howManyHave_5 rfl (lv_at hl 0 rfl) ?_
    refine va_get (D := D) (ci := 0) (v := .int bsz) (C := RX0) (T := TX0) (N := 6) hx hb hts tnX0 hown hK hP 0 rfl rfl 2 (by decide) (hts _ qw_278) (fun _ h9 => h9) rfl dX0_howManyHave_6 ?_
    refine lv_icmp_ge (tgt := 32) hx hb dX0_howManyHave_9 (by decide) (fun c2 => ?_) (fun c2 => ?_)
    · rw [if_pos c2] at hm
      have hm := Option.some.inj hm
      have e9 : x2 = v2 := (congrArg (fun q => q) hm).symm
      rw [e9] at K0
      exact K0 ls (lv_sub hl [2] rfl)
    · rw [if_neg c2] at hm
      refine lv_iload_n hx hb dX0_howManyHave_12 rfl (lv_at hl 2 rfl) ?_
      refine lv_aload_n hx hb dX0_howManyHave_13 rfl (lv_at hl 0 rfl) ?_
      refine va_get (D := D) (ci := 0) (v := .ref oBw) (C := RX0) (T := TX0) (N := 6) hx hb hts tnX0 hown hK hP 0 rfl rfl 1 (by decide) (hts _ qw_279) (fun _ h9 => h9) rfl dX0_howManyHave_14 ?_
      refine lv_iload_n hx hb dX0_howManyHave_17 rfl (lv_at hl 3 rfl) ?_
      obtain ⟨g3, hm⟩ := gd_out hm
      refine va_lald hx hb hK hP 1 1 rfl rfl g3 dX0_howManyHave_18 ?_
      refine lv_iload_n hx hb dX0_howManyHave_19 rfl (lv_at hl 1 rfl) ?_
      refine lv_lushr (v := (jlushr (bwi v3.toNatClampNeg) v1)) hx hb dX0_howManyHave_20 rfl ?_
      refine lv_lconst (v := (1 : Int64)) hx hb dX0_howManyHave_21 (by decide) ?_
      refine lv_land hx hb dX0_howManyHave_22 ?_
      refine lv_l2i (v := ((((jlushr (bwi v3.toNatClampNeg) v1) &&& (1 : Int64))).toInt32)) hx hb dX0_howManyHave_23 rfl ?_
      refine lv_iadd hx hb dX0_howManyHave_24 ?_
      refine lv_istore_n (lv' := [(2, .int (v2 + ((((jlushr (bwi v3.toNatClampNeg) v1) &&& (1 : Int64))).toInt32))), (0, .ref oB), (1, .int v1), (3, .int v3)]) hx hb dX0_howManyHave_25 rfl hl (by decide) rfl (fun ls hl => ?_)
      refine lv_iinc (v := (v3 + (1 : Int32))) (lv' := [(3, .int (v3 + (1 : Int32))), (2, .int (v2 + ((((jlushr (bwi v3.toNatClampNeg) v1) &&& (1 : Int64))).toInt32))), (0, .ref oB), (1, .int v1)]) hx hb dX0_howManyHave_26 hl (k := 3) rfl (by rfl) (by decide) rfl (fun ls hl => ?_)
      refine lv_goto (tgt := 4) hx hb dX0_howManyHave_29 (by decide) ?_
      exact ih _ _ _ hm ls (lv_sub hl [2, 3, 1, 0] rfl) K0
set_option maxHeartbeats 4000000 in
set_option maxRecDepth 100000 in
theorem bX0_howManyHave {n : Nat} {a1 : Int32} {r : Int32} (hx : p.tables.exec = Jvm.exec) (hb : c.code = cX0_howManyHave) (hml : c.maxLocals = 4) (hown : s.vm.findClass RX0 = some m.cls) (hts : ∀ w ∈ tw, w.before args s = true) (hK : va_K D vwCl [(cI, .int), (cJ, .long)] s) (hP : va_P D vwCl (wdB cJ cI oB oBw oF oFr oFs oFc oFw bsz bfi bla bar bwi fw fc fwh fbo fra fst fco fro) H) (hR : 0 ≤ R.frames ∧ 0 ≤ R.locals ∧ cells ≤ R.cells ∧ slots ≤ R.slots) (hm : mX0_howManyHave n bsz bwi a1 = some r) (ls : Array Slot) (hl : lv_has ls 4 [(0, .ref oB), (1, .int a1)]) (K : ∀ (pc : Nat) (ls : Array Slot), decode cX0_howManyHave pc = .ok (.ireturn, 1) → W p l e R s m args below meth c H locs cells slots Q (F0 m pc ls [.int r])) : W p l e R s m args below meth c H locs cells slots Q (F0 m 0 ls []) := by
  unfold mX0_howManyHave at hm
  refine lv_iconst (v := (0 : Int32)) hx hb dX0_howManyHave_0 (by decide) ?_
  refine lv_istore_n (lv' := [(2, .int (0 : Int32)), (0, .ref oB), (1, .int a1)]) hx hb dX0_howManyHave_1 rfl hl (by decide) rfl (fun ls hl => ?_)
  refine lv_iconst (v := (0 : Int32)) hx hb dX0_howManyHave_2 (by decide) ?_
  refine lv_istore_n (lv' := [(3, .int (0 : Int32)), (2, .int (0 : Int32)), (0, .ref oB), (1, .int a1)]) hx hb dX0_howManyHave_3 rfl hl (by decide) rfl (fun ls hl => ?_)
  obtain ⟨y4, h5, hm⟩ := jb_out hm
  refine wX0_howManyHave_L4 hx hb hml hown hts hK hP hR n _ _ _  h5 ls (lv_sub hl [2, 3, 1, 0] rfl) (fun ls hl => ?_)
  refine lv_iload_n hx hb dX0_howManyHave_32 rfl (lv_at hl 0 rfl) ?_
  have hm := Option.some.inj hm
  subst hm
  exact K 33 ls dX0_howManyHave_33
set_option maxHeartbeats 4000000 in
set_option maxRecDepth 100000 in
theorem tX0_howManyHave (l : Launch) {D : va_G} {n : Nat} {a1 : Int32} {r : Int32} (hm : mX0_howManyHave n bsz bwi a1 = some r) : Met l yX0_howManyHave (.code yX0_howManyHave cX0_howManyHave 4 (some .int) :: tw) ({ frames := 0, cells := 0, slots := 0, locals := 0 } : Room) (rdP D [.ref oB, .int a1] (wdB cJ cI oB oBw oF oFr oFs oFc oFw bsz bfi bla bar bwi fw fc fwh fbo fra fst fco fro) [(cI, .int), (cJ, .long)]) (vp_Si (fun q => q = r)) 0 0 (fun _ => False) := by
  refine Met.ofW (cc := cX0_howManyHave) (maxL := 4) (ret := (some .int)) (by decide) rfl ?_
  intro p e s m args below meth c s₁ B hml hv
  obtain ⟨rfl, hP, hK⟩ := hv
  have hx := B.exec
  have hb := B.bytes
  have hr := B.returns
  have hts : ∀ w ∈ tw, w.before _ s = true := fun w h => atoms_spec (ws := .code yX0_howManyHave cX0_howManyHave 4 (some .int) :: tw) B.pre w (List.mem_cons_of_mem _ h)
  have hown : s.vm.findClass RX0 = some m.cls := findClass_of_methodNamed B.named
  have hlocks := B.notSynchronized
  have hl := lv_entry ([.ref oB, .int a1]) (n := 4) (Nat.le_of_ble_eq_true rfl)
  rw [lg_entry_eq]
  generalize (lg_sl ([.ref oB, .int a1]) ++ List.replicate (4 - (lg_sl ([.ref oB, .int a1])).length) Slot.unset).toArray = ls at hl ⊢
  refine bX0_howManyHave hx hb hml hown hts hK hP ⟨Nat.le_of_ble_eq_true rfl, Nat.le_of_ble_eq_true rfl, Nat.zero_le _, Nat.zero_le _⟩ hm ls hl (fun pc ls hd => ?_)
  exact W.iret hx hb hr (fun t ht hW => ⟨r, rfl, rfl, ht⟩) (fun q h => by cases h) hd
set_option maxHeartbeats 4000000 in
set_option maxRecDepth 100000 in
theorem kX0_howManyHave {own : String} {cc : ByteArray} {nL idx pc : Nat} {ls : Array Slot} {rest : List Value} {n : Nat} {a1 : Int32} {r : Int32} (fx : CallFix p m c cc nL s args tw own) (hq : Cond.methodLink own idx yX0_howManyHave ∈ tw) (hP : va_P D vwCl (wdB cJ cI oB oBw oF oFr oFs oFc oFw bsz bfi bla bar bwi fw fc fwh fbo fra fst fco fro) H) (hK : va_K D vwCl [(cI, .int), (cJ, .long)] s) (hm : mX0_howManyHave n bsz bwi a1 = some r) (hsz : ls.size = nL) (hR : 1 ≤ R.frames ∧ 23 ≤ R.locals ∧ cells ≤ R.cells ∧ slots ≤ R.slots) (hst : (rest.map fun v => v.category).sum ≤ 8) (hd : decode cc pc = .ok (.invokevirtual idx, 3)) (kk : W p l e R s m args below meth c H locs cells slots Q (F0 m (pc + 3) ls (.int r :: rest))) : W p l e R s m args below meth c H locs cells slots Q (F0 m pc ls (.int a1 :: .ref oB :: rest)) := by
  exact vp_callSi (va_Run.run (va_runV (As := [.int a1]) (rest := rest) fx (tX0_howManyHave l hm) (cwV 1 fx.2.2.2.2 (tw_V hq qw_280 qw_281 qw_267 qw_282) rfl rfl rfl (by decide +kernel) ⟨hR.1, hR.2.1⟩) ⟨rdP_bl, va_recv hK hP (ci := 0) (q0 := 0) rfl rfl, rdP_ok hP hK⟩ rfl rfl hsz rfl (lv_room hst) hd ⟨hR.2.2.1, hR.2.2.2⟩)) (fun r9 hr9 => by first | (rw [hr9]; exact kk) | (rw [hr9.1]; exact kk))
-- X0_hardest
def mX0_hardest_L10 (n : Nat) (fc : Int32) (v1 : Int64) (bsz : Int32) (bwi : Nat → Int64) : Nat → (Int32) → (Int32) → (Int32) → Option ((Int32))
  | 0, _, _, _ => none
  | k + 1, v3, v4, v5 => (if fc ≤ v5 then some (v3) else jb2 (if ((jlushr v1 v5) &&& (1 : Int64)) = (0 : Int64) then (some (v3, v4)) else jb (mX0_howManyHave n bsz bwi v5) (fun (r8 : Int32) => (if v4 ≤ r8 then (some (v3, v4)) else (some (v5, r8))))) (fun (j3 : Int32) (j4 : Int32) => mX0_hardest_L10 n fc v1 bsz bwi k j3 j4 (v5 + (1 : Int32))))
def mX0_hardest (n : Nat) (fc : Int32) (bsz : Int32) (bwi : Nat → Int64) (a1 : Int64) : Option Int32 :=
  jb (mX0_hardest_L10 n fc a1 bsz bwi n (0 : Int32) (211 : Int32) (0 : Int32)) (fun (y11 : Int32) => (some y11))
theorem dX0_hardest_0 : decode cX0_hardest 0 = .ok (.iconst 0, 1) := by decide +kernel
theorem dX0_hardest_1 : decode cX0_hardest 1 = .ok (.istore_n 3, 1) := by decide +kernel
theorem dX0_hardest_2 : decode cX0_hardest 2 = .ok (.sipush 211, 3) := by decide +kernel
theorem dX0_hardest_5 : decode cX0_hardest 5 = .ok (.istore 4, 2) := by decide +kernel
theorem dX0_hardest_7 : decode cX0_hardest 7 = .ok (.iconst 0, 1) := by decide +kernel
theorem dX0_hardest_8 : decode cX0_hardest 8 = .ok (.istore 5, 2) := by decide +kernel
theorem dX0_hardest_10 : decode cX0_hardest 10 = .ok (.iload 5, 2) := by decide +kernel
theorem dX0_hardest_12 : decode cX0_hardest 12 = .ok (.aload_n 0, 1) := by decide +kernel
theorem dX0_hardest_13 : decode cX0_hardest 13 = .ok (.getfield 28, 3) := by decide +kernel
theorem dX0_hardest_16 : decode cX0_hardest 16 = .ok (.getfield 40, 3) := by decide +kernel
theorem dX0_hardest_19 : decode cX0_hardest 19 = .ok (.if_icmp .ge 42, 3) := by decide +kernel
theorem dX0_hardest_22 : decode cX0_hardest 22 = .ok (.lload_n 1, 1) := by decide +kernel
theorem dX0_hardest_23 : decode cX0_hardest 23 = .ok (.iload 5, 2) := by decide +kernel
theorem dX0_hardest_25 : decode cX0_hardest 25 = .ok (.lushr, 1) := by decide +kernel
theorem dX0_hardest_26 : decode cX0_hardest 26 = .ok (.lconst 1, 1) := by decide +kernel
theorem dX0_hardest_27 : decode cX0_hardest 27 = .ok (.land, 1) := by decide +kernel
theorem dX0_hardest_28 : decode cX0_hardest 28 = .ok (.lconst 0, 1) := by decide +kernel
theorem dX0_hardest_29 : decode cX0_hardest 29 = .ok (.lcmp, 1) := by decide +kernel
theorem dX0_hardest_30 : decode cX0_hardest 30 = .ok (.ifCond .eq 25, 3) := by decide +kernel
theorem dX0_hardest_33 : decode cX0_hardest 33 = .ok (.aload_n 0, 1) := by decide +kernel
theorem dX0_hardest_34 : decode cX0_hardest 34 = .ok (.iload 5, 2) := by decide +kernel
theorem dX0_hardest_36 : decode cX0_hardest 36 = .ok (.invokevirtual 74, 3) := by decide +kernel
theorem dX0_hardest_39 : decode cX0_hardest 39 = .ok (.istore 6, 2) := by decide +kernel
theorem dX0_hardest_41 : decode cX0_hardest 41 = .ok (.iload 6, 2) := by decide +kernel
theorem dX0_hardest_43 : decode cX0_hardest 43 = .ok (.iload 4, 2) := by decide +kernel
theorem dX0_hardest_45 : decode cX0_hardest 45 = .ok (.if_icmp .ge 10, 3) := by decide +kernel
theorem dX0_hardest_48 : decode cX0_hardest 48 = .ok (.iload 6, 2) := by decide +kernel
theorem dX0_hardest_50 : decode cX0_hardest 50 = .ok (.istore 4, 2) := by decide +kernel
theorem dX0_hardest_52 : decode cX0_hardest 52 = .ok (.iload 5, 2) := by decide +kernel
theorem dX0_hardest_54 : decode cX0_hardest 54 = .ok (.istore_n 3, 1) := by decide +kernel
theorem dX0_hardest_55 : decode cX0_hardest 55 = .ok (.iinc 5 1, 3) := by decide +kernel
theorem dX0_hardest_58 : decode cX0_hardest 58 = .ok (.goto (-48), 3) := by decide +kernel
theorem dX0_hardest_61 : decode cX0_hardest 61 = .ok (.iload_n 3, 1) := by decide +kernel
theorem dX0_hardest_62 : decode cX0_hardest 62 = .ok (.ireturn, 1) := by decide +kernel
set_option maxHeartbeats 4000000 in
set_option maxRecDepth 100000 in
theorem wX0_hardest_L10 {n : Nat} {v1 : Int64} (hx : p.tables.exec = Jvm.exec) (hb : c.code = cX0_hardest) (hml : c.maxLocals = 7) (hown : s.vm.findClass RX0 = some m.cls) (hts : ∀ w ∈ tw, w.before args s = true) (hK : va_K D vwCl [(cI, .int), (cJ, .long)] s) (hP : va_P D vwCl (wdB cJ cI oB oBw oF oFr oFs oFc oFw bsz bfi bla bar bwi fw fc fwh fbo fra fst fco fro) H) (hR : 1 ≤ R.frames ∧ 23 ≤ R.locals ∧ cells ≤ R.cells ∧ slots ≤ R.slots) : ∀ (k : Nat) (v3 : Int32) (v4 : Int32) (v5 : Int32) (x3 : Int32), mX0_hardest_L10 n fc v1 bsz bwi k v3 v4 v5 = some (x3) → ∀ ls : Array Slot, lv_has ls 7 [(0, .ref oB), (1, .long v1), (3, .int v3), (4, .int v4), (5, .int v5)] → (∀ ls : Array Slot, lv_has ls 7 [(3, .int x3)] → W p l e R s m args below meth c H locs cells slots Q (F0 m 61 ls [])) → W p l e R s m args below meth c H locs cells slots Q (F0 m 10 ls []) := by
  intro k
  induction k with
  | zero => intro v3 v4 v5 x3 hm; rw [mX0_hardest_L10] at hm; cases hm
  | succ k ih =>
    intro v3 v4 v5 x3 hm ls hl K0
    rw [mX0_hardest_L10] at hm
    refine lv_iload hx hb dX0_hardest_10 (lv_at hl 4 rfl) ?_
    refine lv_aload_n hx hb dX0_hardest_12 rfl (lv_at hl 0 rfl) ?_
    refine va_get (D := D) (ci := 0) (v := .ref oF) (C := RX0) (T := TX0) (N := 6) hx hb hts tnX0 hown hK hP 0 rfl rfl 0 (by decide) (hts _ qw_262) (fun _ h9 => h9) rfl dX0_hardest_13 ?_
    refine va_get (D := D) (ci := 1) (v := .int fc) (C := RX1) (T := TX1) (N := 8) hx hb hts tnX1 hown hK hP 2 rfl rfl 1 (by decide) (hts _ qw_269) (fun _ h9 => h9) rfl dX0_hardest_16 ?_
    refine lv_icmp_ge (tgt := 61) hx hb dX0_hardest_19 (by decide) (fun c2 => ?_) (fun c2 => ?_)
    · rw [if_pos c2] at hm
      have hm := Option.some.inj hm
      have e9 : x3 = v3 := (congrArg (fun q => q) hm).symm
      rw [e9] at K0
      exact K0 ls (lv_sub hl [2] rfl)
    · rw [if_neg c2] at hm
      refine lv_lload_n hx hb dX0_hardest_22 rfl (lv_at hl 1 rfl) ?_
      refine lv_iload hx hb dX0_hardest_23 (lv_at hl 4 rfl) ?_
      refine lv_lushr (v := (jlushr v1 v5)) hx hb dX0_hardest_25 rfl ?_
      refine lv_lconst (v := (1 : Int64)) hx hb dX0_hardest_26 (by decide) ?_
      refine lv_land hx hb dX0_hardest_27 ?_
      refine lv_lconst (v := (0 : Int64)) hx hb dX0_hardest_28 (by decide) ?_
      refine W.lcmp hx hb dX0_hardest_29 ?_
      obtain ⟨j3, j4, hi5, hm⟩ := jb_out2 hm
      have key6 : ∀ (ls : Array Slot), lv_has ls 7 [(3, .int j3), (4, .int j4), (0, .ref oB), (1, .long v1), (5, .int v5)] → W p l e R s m args below meth c H locs cells slots Q (F0 m 55 ls []) := by
        intro ls hl
        refine lv_iinc (v := (v5 + (1 : Int32))) (lv' := [(5, .int (v5 + (1 : Int32))), (3, .int j3), (4, .int j4), (0, .ref oB), (1, .long v1)]) hx hb dX0_hardest_55 hl (k := 4) rfl (by rfl) (by decide) rfl (fun ls hl => ?_)
        refine lv_goto (tgt := 10) hx hb dX0_hardest_58 (by decide) ?_
        exact ih _ _ _ _ hm ls (lv_sub hl [3, 4, 1, 2, 0] rfl) K0
      refine lv_if_eq (tgt := 55) hx hb dX0_hardest_30 (by decide) (fun c7 => ?_) (fun c7 => ?_)
      · have c7 := (lg_cmp_eq ((jlushr v1 v5) &&& (1 : Int64)) (0 : Int64)).mp c7
        rw [if_pos c7] at hi5
        have hi5 := Option.some.inj hi5
        have e9 : j3 = v3 := (congrArg (fun q => q.1) hi5).symm
        rw [e9] at key6
        have e9 : j4 = v4 := (congrArg (fun q => q.2) hi5).symm
        rw [e9] at key6
        exact key6 ls (lv_sub hl [2, 3, 0, 1, 4] rfl)
      · have c7 := fun h9 => c7 ((lg_cmp_eq ((jlushr v1 v5) &&& (1 : Int64)) (0 : Int64)).mpr h9)
        rw [if_neg c7] at hi5
        refine lv_aload_n hx hb dX0_hardest_33 rfl (lv_at hl 0 rfl) ?_
        refine lv_iload hx hb dX0_hardest_34 (lv_at hl 4 rfl) ?_
        obtain ⟨r8, h9, hi5⟩ := jb_out hi5
        refine kX0_howManyHave ⟨hx, hb, hml, hown, hts⟩ qw_283 hP hK h9 hl.1 ⟨Nat.le_trans (by decide) hR.1, Nat.le_trans (by decide) hR.2.1, hR.2.2⟩ (Nat.le_of_ble_eq_true rfl) dX0_hardest_36 ?_
        refine lv_istore (lv' := [(6, .int r8), (0, .ref oB), (1, .long v1), (3, .int v3), (4, .int v4), (5, .int v5)]) hx hb dX0_hardest_39 hl (by decide) rfl (fun ls hl => ?_)
        refine lv_iload hx hb dX0_hardest_41 (lv_at hl 0 rfl) ?_
        refine lv_iload hx hb dX0_hardest_43 (lv_at hl 4 rfl) ?_
        refine lv_icmp_ge (tgt := 55) hx hb dX0_hardest_45 (by decide) (fun c10 => ?_) (fun c10 => ?_)
        · rw [if_pos c10] at hi5
          have hi5 := Option.some.inj hi5
          have e9 : j3 = v3 := (congrArg (fun q => q.1) hi5).symm
          rw [e9] at key6
          have e9 : j4 = v4 := (congrArg (fun q => q.2) hi5).symm
          rw [e9] at key6
          exact key6 ls (lv_sub hl [3, 4, 1, 2, 5] rfl)
        · rw [if_neg c10] at hi5
          refine lv_iload hx hb dX0_hardest_48 (lv_at hl 0 rfl) ?_
          refine lv_istore (lv' := [(4, .int r8), (6, .int r8), (0, .ref oB), (1, .long v1), (3, .int v3), (5, .int v5)]) hx hb dX0_hardest_50 hl (by decide) rfl (fun ls hl => ?_)
          refine lv_iload hx hb dX0_hardest_52 (lv_at hl 5 rfl) ?_
          refine lv_istore_n (lv' := [(3, .int v5), (4, .int r8), (6, .int r8), (0, .ref oB), (1, .long v1), (5, .int v5)]) hx hb dX0_hardest_54 rfl hl (by decide) rfl (fun ls hl => ?_)
          have hi5 := Option.some.inj hi5
          have e9 : j3 = v5 := (congrArg (fun q => q.1) hi5).symm
          rw [e9] at key6
          have e9 : j4 = r8 := (congrArg (fun q => q.2) hi5).symm
          rw [e9] at key6
          exact key6 ls (lv_sub hl [0, 1, 3, 4, 5] rfl)
set_option maxHeartbeats 4000000 in
set_option maxRecDepth 100000 in
theorem bX0_hardest {n : Nat} {a1 : Int64} {r : Int32} (hx : p.tables.exec = Jvm.exec) (hb : c.code = cX0_hardest) (hml : c.maxLocals = 7) (hown : s.vm.findClass RX0 = some m.cls) (hts : ∀ w ∈ tw, w.before args s = true) (hK : va_K D vwCl [(cI, .int), (cJ, .long)] s) (hP : va_P D vwCl (wdB cJ cI oB oBw oF oFr oFs oFc oFw bsz bfi bla bar bwi fw fc fwh fbo fra fst fco fro) H) (hR : 1 ≤ R.frames ∧ 23 ≤ R.locals ∧ cells ≤ R.cells ∧ slots ≤ R.slots) (hm : mX0_hardest n fc bsz bwi a1 = some r) (ls : Array Slot) (hl : lv_has ls 7 [(0, .ref oB), (1, .long a1)]) (K : ∀ (pc : Nat) (ls : Array Slot), decode cX0_hardest pc = .ok (.ireturn, 1) → W p l e R s m args below meth c H locs cells slots Q (F0 m pc ls [.int r])) : W p l e R s m args below meth c H locs cells slots Q (F0 m 0 ls []) := by
  unfold mX0_hardest at hm
  refine lv_iconst (v := (0 : Int32)) hx hb dX0_hardest_0 (by decide) ?_
  refine lv_istore_n (lv' := [(3, .int (0 : Int32)), (0, .ref oB), (1, .long a1)]) hx hb dX0_hardest_1 rfl hl (by decide) rfl (fun ls hl => ?_)
  refine lv_sipush (v := (211 : Int32)) hx hb dX0_hardest_2 (by decide) ?_
  refine lv_istore (lv' := [(4, .int (211 : Int32)), (3, .int (0 : Int32)), (0, .ref oB), (1, .long a1)]) hx hb dX0_hardest_5 hl (by decide) rfl (fun ls hl => ?_)
  refine lv_iconst (v := (0 : Int32)) hx hb dX0_hardest_7 (by decide) ?_
  refine lv_istore (lv' := [(5, .int (0 : Int32)), (4, .int (211 : Int32)), (3, .int (0 : Int32)), (0, .ref oB), (1, .long a1)]) hx hb dX0_hardest_8 hl (by decide) rfl (fun ls hl => ?_)
  obtain ⟨y11, h12, hm⟩ := jb_out hm
  refine wX0_hardest_L10 hx hb hml hown hts hK hP hR n _ _ _ _  h12 ls (lv_sub hl [3, 4, 2, 1, 0] rfl) (fun ls hl => ?_)
  refine lv_iload_n hx hb dX0_hardest_61 rfl (lv_at hl 0 rfl) ?_
  have hm := Option.some.inj hm
  subst hm
  exact K 62 ls dX0_hardest_62
set_option maxHeartbeats 4000000 in
set_option maxRecDepth 100000 in
theorem tX0_hardest (l : Launch) {D : va_G} {n : Nat} {a1 : Int64} {r : Int32} (hm : mX0_hardest n fc bsz bwi a1 = some r) : Met l yX0_hardest (.code yX0_hardest cX0_hardest 7 (some .int) :: tw) ({ frames := 1, cells := 0, slots := 0, locals := 23 } : Room) (rdP D [.ref oB, .long a1] (wdB cJ cI oB oBw oF oFr oFs oFc oFw bsz bfi bla bar bwi fw fc fwh fbo fra fst fco fro) [(cI, .int), (cJ, .long)]) (vp_Si (fun q => q = r)) 0 0 (fun _ => False) := by
  refine Met.ofW (cc := cX0_hardest) (maxL := 7) (ret := (some .int)) (by decide) rfl ?_
  intro p e s m args below meth c s₁ B hml hv
  obtain ⟨rfl, hP, hK⟩ := hv
  have hx := B.exec
  have hb := B.bytes
  have hr := B.returns
  have hts : ∀ w ∈ tw, w.before _ s = true := fun w h => atoms_spec (ws := .code yX0_hardest cX0_hardest 7 (some .int) :: tw) B.pre w (List.mem_cons_of_mem _ h)
  have hown : s.vm.findClass RX0 = some m.cls := findClass_of_methodNamed B.named
  have hlocks := B.notSynchronized
  have hl := lv_entry ([.ref oB, .long a1]) (n := 7) (Nat.le_of_ble_eq_true rfl)
  rw [lg_entry_eq]
  generalize (lg_sl ([.ref oB, .long a1]) ++ List.replicate (7 - (lg_sl ([.ref oB, .long a1])).length) Slot.unset).toArray = ls at hl ⊢
  refine bX0_hardest hx hb hml hown hts hK hP ⟨Nat.le_of_ble_eq_true rfl, Nat.le_of_ble_eq_true rfl, Nat.zero_le _, Nat.zero_le _⟩ hm ls hl (fun pc ls hd => ?_)
  exact W.iret hx hb hr (fun t ht hW => ⟨r, rfl, rfl, ht⟩) (fun q h => by cases h) hd
set_option maxHeartbeats 4000000 in
set_option maxRecDepth 100000 in
theorem kX0_hardest {own : String} {cc : ByteArray} {nL idx pc : Nat} {ls : Array Slot} {rest : List Value} {n : Nat} {a1 : Int64} {r : Int32} (fx : CallFix p m c cc nL s args tw own) (hq : Cond.methodLink own idx yX0_hardest ∈ tw) (hP : va_P D vwCl (wdB cJ cI oB oBw oF oFr oFs oFc oFw bsz bfi bla bar bwi fw fc fwh fbo fra fst fco fro) H) (hK : va_K D vwCl [(cI, .int), (cJ, .long)] s) (hm : mX0_hardest n fc bsz bwi a1 = some r) (hsz : ls.size = nL) (hR : 2 ≤ R.frames ∧ 49 ≤ R.locals ∧ cells ≤ R.cells ∧ slots ≤ R.slots) (hst : (rest.map fun v => v.category).sum ≤ 8) (hd : decode cc pc = .ok (.invokevirtual idx, 3)) (kk : W p l e R s m args below meth c H locs cells slots Q (F0 m (pc + 3) ls (.int r :: rest))) : W p l e R s m args below meth c H locs cells slots Q (F0 m pc ls (.long a1 :: .ref oB :: rest)) := by
  exact vp_callSi (va_Run.run (va_runV (As := [.long a1]) (rest := rest) fx (tX0_hardest l hm) (cwV 1 fx.2.2.2.2 (tw_V hq qw_284 qw_285 qw_267 qw_286) rfl rfl rfl (by decide +kernel) ⟨hR.1, hR.2.1⟩) ⟨rdP_bl, va_recv hK hP (ci := 0) (q0 := 0) rfl rfl, rdP_ok hP hK⟩ rfl rfl hsz rfl (lv_room hst) hd ⟨hR.2.2.1, hR.2.2.2⟩)) (fun r9 hr9 => by first | (rw [hr9]; exact kk) | (rw [hr9.1]; exact kk))
end
