theorem qw_287 : Cond.static yX7_isSide ∈ tw := tw_of (by decide +kernel) rfl
theorem qw_288 : Cond.initialized RX7 ∈ tw := tw_of (by decide +kernel) rfl
theorem qw_289 : Cond.code yX7_isSide cX7_isSide 1 (some .boolean) ∈ tw := tw_of (by decide +kernel) rfl
theorem qw_290 : Cond.static yX7_isPicture ∈ tw := tw_of (by decide +kernel) rfl
theorem qw_291 : Cond.code yX7_isPicture cX7_isPicture 1 (some .boolean) ∈ tw := tw_of (by decide +kernel) rfl
theorem qw_292 : Cond.static yX7_isProgram ∈ tw := tw_of (by decide +kernel) rfl
theorem qw_293 : Cond.code yX7_isProgram cX7_isProgram 1 (some .boolean) ∈ tw := tw_of (by decide +kernel) rfl
theorem qw_294 : Cond.constantLong RX7 105 (-1) ∈ tw := tw_of (by decide +kernel) rfl
theorem qw_295 : Cond.static yX7_mixed ∈ tw := tw_of (by decide +kernel) rfl
theorem qw_296 : Cond.code yX7_mixed cX7_mixed 5 (some .long) ∈ tw := tw_of (by decide +kernel) rfl
theorem qw_297 : Cond.fieldLink RX7 18 "WornShapes" "pictures" "[J" ∈ tw := tw_of (by decide +kernel) rfl
theorem qw_298 : Cond.instanceMethod yX7_bitAt ∈ tw := tw_of (by decide +kernel) rfl
theorem qw_299 : Cond.selects RX7 yX7_bitAt yX7_bitAt ∈ tw := tw_of (by decide +kernel) rfl
theorem qw_300 : Cond.code yX7_bitAt cX7_bitAt 3 (some .int) ∈ tw := tw_of (by decide +kernel) rfl
theorem qw_301 : Cond.methodLink RX7 81 yX7_isPicture ∈ tw := tw_of (by decide +kernel) rfl
theorem qw_302 : Cond.fieldLink RX7 14 "WornShapes" "plane" "LWornShapes$Field;" ∈ tw := tw_of (by decide +kernel) rfl
theorem qw_303 : Cond.methodLink RX7 84 yX1_isCell ∈ tw := tw_of (by decide +kernel) rfl
theorem qw_304 : Cond.methodLink RX7 87 yX7_bitAt ∈ tw := tw_of (by decide +kernel) rfl
theorem qw_305 : Cond.instanceMethod yX7_at ∈ tw := tw_of (by decide +kernel) rfl
theorem qw_306 : Cond.selects RX7 yX7_at yX7_at ∈ tw := tw_of (by decide +kernel) rfl
theorem qw_307 : Cond.code yX7_at cX7_at 3 (some .int) ∈ tw := tw_of (by decide +kernel) rfl
theorem qw_308 : Cond.instanceMethod yX7_number ∈ tw := tw_of (by decide +kernel) rfl
theorem qw_309 : Cond.selects RX7 yX7_number yX7_number ∈ tw := tw_of (by decide +kernel) rfl
theorem qw_310 : Cond.code yX7_number cX7_number 2 (some .long) ∈ tw := tw_of (by decide +kernel) rfl
theorem qw_311 : Cond.methodLink RX7 129 yX6_isAct ∈ tw := tw_of (by decide +kernel) rfl
theorem qw_312 : Cond.fieldLink RX7 27 "WornShapes" "stamps" "LWornShapes$Stamps;" ∈ tw := tw_of (by decide +kernel) rfl
theorem qw_313 : Cond.methodLink RX7 132 yX6_made ∈ tw := tw_of (by decide +kernel) rfl
theorem qw_314 : Cond.methodLink RX7 99 yJ13_bitCount_95d88 ∈ tw := tw_of (by decide +kernel) rfl
theorem qw_315 : Cond.instanceMethod yX7_would ∈ tw := tw_of (by decide +kernel) rfl
theorem qw_316 : Cond.selects RX7 yX7_would yX7_would ∈ tw := tw_of (by decide +kernel) rfl
theorem qw_317 : Cond.code yX7_would cX7_would 3 (some .int) ∈ tw := tw_of (by decide +kernel) rfl
theorem qw_318 : Cond.methodLink RX7 136 yX7_isProgram ∈ tw := tw_of (by decide +kernel) rfl
theorem qw_319 : Cond.fieldLink RX7 77 "WornShapes$Field" "cells" "I" ∈ tw := tw_of (by decide +kernel) rfl
theorem qw_320 : Cond.fieldLink RX7 33 "WornShapes" "programs" "[LWornShapes$Program;" ∈ tw := tw_of (by decide +kernel) rfl
theorem qw_321 : Cond.methodLink RX7 145 yX4_madeOf ∈ tw := tw_of (by decide +kernel) rfl
theorem qw_322 : Cond.instanceMethod yX7_differ ∈ tw := tw_of (by decide +kernel) rfl
theorem qw_323 : Cond.selects RX7 yX7_differ yX7_differ ∈ tw := tw_of (by decide +kernel) rfl
theorem qw_324 : Cond.code yX7_differ cX7_differ 5 (some .int) ∈ tw := tw_of (by decide +kernel) rfl
theorem qw_325 : Cond.fieldLink RX7 50 "WornShapes" "pieces" "LWornShapes$Pieces;" ∈ tw := tw_of (by decide +kernel) rfl
theorem qw_326 : Cond.methodLink RX7 168 yX3_around ∈ tw := tw_of (by decide +kernel) rfl
theorem qw_327 : Cond.instanceMethod yX7_piece ∈ tw := tw_of (by decide +kernel) rfl
theorem qw_328 : Cond.selects RX7 yX7_piece yX7_piece ∈ tw := tw_of (by decide +kernel) rfl
theorem qw_329 : Cond.code yX7_piece cX7_piece 3 (some .int) ∈ tw := tw_of (by decide +kernel) rfl
theorem qw_330 : Cond.fieldLink RX7 59 "WornShapes" "pairs" "LWornShapes$Pairs;" ∈ tw := tw_of (by decide +kernel) rfl
theorem qw_331 : Cond.fieldLink RX7 178 "WornShapes$Pairs" "size" "I" ∈ tw := tw_of (by decide +kernel) rfl
theorem qw_332 : Cond.methodLink RX7 179 yX2_hitIn ∈ tw := tw_of (by decide +kernel) rfl
theorem qw_333 : Cond.instanceMethod yX7_hits ∈ tw := tw_of (by decide +kernel) rfl
theorem qw_334 : Cond.selects RX7 yX7_hits yX7_hits ∈ tw := tw_of (by decide +kernel) rfl
theorem qw_335 : Cond.code yX7_hits cX7_hits 3 (some .int) ∈ tw := tw_of (by decide +kernel) rfl
theorem qw_336 : Cond.methodLink RX7 107 yX6_isStamp ∈ tw := tw_of (by decide +kernel) rfl
theorem qw_337 : Cond.methodLink RX7 185 yX6_wornBy ∈ tw := tw_of (by decide +kernel) rfl
theorem qw_338 : Cond.instanceMethod yX7_deep ∈ tw := tw_of (by decide +kernel) rfl
theorem qw_339 : Cond.selects RX7 yX7_deep yX7_deep ∈ tw := tw_of (by decide +kernel) rfl
theorem qw_340 : Cond.code yX7_deep cX7_deep 7 (some .int) ∈ tw := tw_of (by decide +kernel) rfl
theorem qw_341 : Cond.methodLink RX7 188 yX1_grown ∈ tw := tw_of (by decide +kernel) rfl
theorem qw_342 : Cond.instanceMethod yX7_explains ∈ tw := tw_of (by decide +kernel) rfl
theorem qw_343 : Cond.selects RX7 yX7_explains yX7_explains ∈ tw := tw_of (by decide +kernel) rfl
theorem qw_344 : Cond.code yX7_explains cX7_explains 5 (some .int) ∈ tw := tw_of (by decide +kernel) rfl
theorem qw_345 : Cond.methodLink RX7 191 yJ6_bitCount_0f7a4 ∈ tw := tw_of (by decide +kernel) rfl
theorem qw_346 : Cond.instanceMethod yX7_least ∈ tw := tw_of (by decide +kernel) rfl
theorem qw_347 : Cond.selects RX7 yX7_least yX7_least ∈ tw := tw_of (by decide +kernel) rfl
theorem qw_348 : Cond.code yX7_least cX7_least 6 (some .int) ∈ tw := tw_of (by decide +kernel) rfl
section
variable {A : Nat → Prop} {p : Program} {l : Launch} {e : Env} {R : Room} {s : State} {m : MethodId} {args : Array Value} {below : List Frame} {meth : Method} {c : Code} {H : Heap} {locs : List Loc} {cells slots : Nat} {Q : State → Prop} {D : va_G} {oF : Nat} {oFr : Nat} {oFs : Nat} {oFc : Nat} {oFw : Nat} {oS : Nat} {oSs : Nat} {oG : Nat} {oGa : Nat} {oQ : Nat} {oQw : Nat} {oI : Nat} {oR : Nat} {oRh : Nat} {oRm : Nat} {oB : Nat} {oBw : Nat} {oX : Nat} {oXp : Nat} {oXg : Nat} {oG0 : Nat} {oGa0 : Nat} {oG1 : Nat} {oGa1 : Nat} {oG2 : Nat} {oGa2 : Nat} {oM : Nat} {oM1 : Nat} {oM2 : Nat} {oM3 : Nat} {oM4 : Nat} {oM5 : Nat} {oM6 : Nat} {oM7 : Nat} {oM8 : Nat} {oM9 : Nat} {oM10 : Nat} {oM11 : Nat} {tS : Nat} {tA : Nat} {cI : ClassId} {cJ : ClassId} {cG : ClassId} {fw : Int32} {fc : Int32} {fwh : Int64} {fbo : Int64} {fra : Nat → Int32} {fco : Nat → Int32} {fro : Nat → Int32} {fst : Nat → Int64} {srim : Int32} {sst : Nat → Int32} {gsz : Int32} {gac : Nat → Int32} {qln : Int32} {qwy : Nat → Int32} {ijn : Int32} {rsz : Int32} {rhi : Nat → Int32} {rmi : Nat → Int32} {bsz : Int32} {bfi : Int32} {bla : Int32} {bar : Int32} {bwi : Nat → Int64} {xpi : Nat → Int64} {gs0 : Int32} {gs1 : Int32} {gs2 : Int32} {ga0 : Nat → Int32} {ga1 : Nat → Int32} {ga2 : Nat → Int32} {mw : Int32} {mt : Int32} {mrim : Int32} {mjn : Int32} {mhm : Int32} {mpn : Int32} {mbm : Int32} {mgm : Int32} {mpi : Nat → Int64} {mbe : Nat → Int64} {mgr : Nat → Int64} {mle : Nat → Int64} {mst : Nat → Int32} {mam : Nat → Int32} {mac : Nat → Int32} {mro : Nat → Int32} {mhi : Nat → Int32} {mmi : Nat → Int32} {mtr : Nat → Int32}
-- X7_isSide
def mX7_isSide (a0 : Int32) : Int32 :=
  (if a0 < (2 : Int32) then (0 : Int32) else (if (7 : Int32) < a0 then (0 : Int32) else (1 : Int32)))
theorem dX7_isSide_0 : decode cX7_isSide 0 = .ok (.iload_n 0, 1) := by decide +kernel
theorem dX7_isSide_1 : decode cX7_isSide 1 = .ok (.iconst 2, 1) := by decide +kernel
theorem dX7_isSide_2 : decode cX7_isSide 2 = .ok (.if_icmp .lt 13, 3) := by decide +kernel
theorem dX7_isSide_5 : decode cX7_isSide 5 = .ok (.iload_n 0, 1) := by decide +kernel
theorem dX7_isSide_6 : decode cX7_isSide 6 = .ok (.bipush 7, 2) := by decide +kernel
theorem dX7_isSide_8 : decode cX7_isSide 8 = .ok (.if_icmp .gt 7, 3) := by decide +kernel
theorem dX7_isSide_11 : decode cX7_isSide 11 = .ok (.iconst 1, 1) := by decide +kernel
theorem dX7_isSide_12 : decode cX7_isSide 12 = .ok (.goto 4, 3) := by decide +kernel
theorem dX7_isSide_15 : decode cX7_isSide 15 = .ok (.iconst 0, 1) := by decide +kernel
theorem dX7_isSide_16 : decode cX7_isSide 16 = .ok (.ireturn, 1) := by decide +kernel
set_option maxHeartbeats 4000000 in
set_option maxRecDepth 100000 in
theorem bX7_isSide {a0 : Int32} {r : Int32} (hx : p.tables.exec = Jvm.exec) (hb : c.code = cX7_isSide) (hml : c.maxLocals = 1) (hown : s.vm.findClass RX7 = some m.cls) (hts : ∀ w ∈ tw, w.before args s = true) (hR : 0 ≤ R.frames ∧ 0 ≤ R.locals ∧ cells ≤ R.cells ∧ slots ≤ R.slots) (hm : mX7_isSide a0 = r) (ls : Array Slot) (hl : lv_has ls 1 [(0, .int a0)]) (K : ∀ (pc : Nat) (ls : Array Slot), decode cX7_isSide pc = .ok (.ireturn, 1) → narrow .boolean (.int r) = .int r → W p l e R s m args below meth c H locs cells slots Q (F0 m pc ls [.int r])) : W p l e R s m args below meth c H locs cells slots Q (F0 m 0 ls []) := by
  unfold mX7_isSide at hm
  refine lv_iload_n hx hb dX7_isSide_0 rfl (lv_at hl 0 rfl) ?_
  refine lv_iconst (v := (2 : Int32)) hx hb dX7_isSide_1 (by decide) ?_
  refine lv_icmp_lt (tgt := 15) hx hb dX7_isSide_2 (by decide) (fun c1 => ?_) (fun c1 => ?_)
  · rw [if_pos c1] at hm
    refine lv_iconst (v := (0 : Int32)) hx hb dX7_isSide_15 (by decide) ?_
    subst hm
    exact K 16 ls dX7_isSide_16 rfl
  · rw [if_neg c1] at hm
    refine lv_iload_n hx hb dX7_isSide_5 rfl (lv_at hl 0 rfl) ?_
    refine lv_bipush (v := (7 : Int32)) hx hb dX7_isSide_6 (by decide) ?_
    refine lv_icmp_gt (tgt := 15) hx hb dX7_isSide_8 (by decide) (fun c2 => ?_) (fun c2 => ?_)
    · rw [if_pos c2] at hm
      refine lv_iconst (v := (0 : Int32)) hx hb dX7_isSide_15 (by decide) ?_
      subst hm
      exact K 16 ls dX7_isSide_16 rfl
    · rw [if_neg c2] at hm
      refine lv_iconst (v := (1 : Int32)) hx hb dX7_isSide_11 (by decide) ?_
      refine lv_goto (tgt := 16) hx hb dX7_isSide_12 (by decide) ?_
      subst hm
      exact K 16 ls dX7_isSide_16 rfl
set_option maxHeartbeats 4000000 in
set_option maxRecDepth 100000 in
theorem tX7_isSide (l : Launch) {a0 : Int32} {r : Int32} (hm : mX7_isSide a0 = r) : Met l yX7_isSide (.code yX7_isSide cX7_isSide 1 (some .boolean) :: tw) ({ frames := 0, cells := 0, slots := 0, locals := 0 } : Room) (va_Pc [.int a0] (fun _ => True)) (vp_Si (fun q => q = r ∧ narrow .boolean (.int q) = .int q)) 0 0 (fun _ => False) := by
  refine Met.ofW (cc := cX7_isSide) (maxL := 1) (ret := (some .boolean)) (by decide) rfl ?_
  intro p e s m args below meth c s₁ B hml hv
  obtain ⟨rfl, -⟩ := hv
  have hx := B.exec
  have hb := B.bytes
  have hr := B.returns
  have hts : ∀ w ∈ tw, w.before _ s = true := fun w h => atoms_spec (ws := .code yX7_isSide cX7_isSide 1 (some .boolean) :: tw) B.pre w (List.mem_cons_of_mem _ h)
  have hown : s.vm.findClass RX7 = some m.cls := findClass_of_methodNamed B.named
  have hlocks := B.notSynchronized
  have hl := lv_entry ([.int a0]) (n := 1) (Nat.le_of_ble_eq_true rfl)
  rw [lg_entry_eq]
  generalize (lg_sl ([.int a0]) ++ List.replicate (1 - (lg_sl ([.int a0])).length) Slot.unset).toArray = ls at hl ⊢
  refine bX7_isSide hx hb hml hown hts ⟨Nat.le_of_ble_eq_true rfl, Nat.le_of_ble_eq_true rfl, Nat.zero_le _, Nat.zero_le _⟩ hm ls hl (fun pc ls hd hz => ?_)
  exact W.zret hx hb hr hz (fun t ht hW => ⟨r, rfl, ⟨rfl, hz⟩, ht⟩) (fun q h => by cases h) hd
set_option maxHeartbeats 4000000 in
set_option maxRecDepth 100000 in
theorem kX7_isSide {own : String} {cc : ByteArray} {nL idx pc : Nat} {ls : Array Slot} {rest : List Value} {a0 : Int32} (fx : CallFix p m c cc nL s args tw own) (hq : Cond.methodLink own idx yX7_isSide ∈ tw) (hsz : ls.size = nL) (hR : 1 ≤ R.frames ∧ 20 ≤ R.locals ∧ cells ≤ R.cells ∧ slots ≤ R.slots) (hst : (rest.map fun v => v.category).sum ≤ 8) (hd : decode cc pc = .ok (.invokestatic idx, 3)) (kk : W p l e R s m args below meth c H locs cells slots Q (F0 m (pc + 3) ls (.int (mX7_isSide a0) :: rest))) : W p l e R s m args below meth c H locs cells slots Q (F0 m pc ls (.int a0 :: rest)) := by
  exact vp_callSi (va_Run.run (va_runS (As := [.int a0]) (rest := rest) fx (tX7_isSide l rfl) (va_cwS 1 fx.2.2.2.2 (tw_S2 hq qw_287 qw_288 qw_289) rfl rfl rfl (by decide +kernel) ⟨hR.1, hR.2.1⟩) ⟨fun a U g mk q => q, fun U hU hW => ⟨rfl, trivial⟩⟩ rfl rfl hsz rfl (lv_room hst) hd ⟨hR.2.2.1, hR.2.2.2⟩)) (fun r9 hr9 => by first | (rw [hr9]; exact kk) | (rw [hr9.1]; exact kk))
-- X7_isPicture
def mX7_isPicture (a0 : Int32) : Int32 :=
  (if a0 < 0 then (0 : Int32) else (if (5 : Int32) ≤ a0 then (0 : Int32) else (1 : Int32)))
theorem dX7_isPicture_0 : decode cX7_isPicture 0 = .ok (.iload_n 0, 1) := by decide +kernel
theorem dX7_isPicture_1 : decode cX7_isPicture 1 = .ok (.ifCond .lt 12, 3) := by decide +kernel
theorem dX7_isPicture_4 : decode cX7_isPicture 4 = .ok (.iload_n 0, 1) := by decide +kernel
theorem dX7_isPicture_5 : decode cX7_isPicture 5 = .ok (.iconst 5, 1) := by decide +kernel
theorem dX7_isPicture_6 : decode cX7_isPicture 6 = .ok (.if_icmp .ge 7, 3) := by decide +kernel
theorem dX7_isPicture_9 : decode cX7_isPicture 9 = .ok (.iconst 1, 1) := by decide +kernel
theorem dX7_isPicture_10 : decode cX7_isPicture 10 = .ok (.goto 4, 3) := by decide +kernel
theorem dX7_isPicture_13 : decode cX7_isPicture 13 = .ok (.iconst 0, 1) := by decide +kernel
theorem dX7_isPicture_14 : decode cX7_isPicture 14 = .ok (.ireturn, 1) := by decide +kernel
set_option maxHeartbeats 4000000 in
set_option maxRecDepth 100000 in
theorem bX7_isPicture {a0 : Int32} {r : Int32} (hx : p.tables.exec = Jvm.exec) (hb : c.code = cX7_isPicture) (hml : c.maxLocals = 1) (hown : s.vm.findClass RX7 = some m.cls) (hts : ∀ w ∈ tw, w.before args s = true) (hR : 0 ≤ R.frames ∧ 0 ≤ R.locals ∧ cells ≤ R.cells ∧ slots ≤ R.slots) (hm : mX7_isPicture a0 = r) (ls : Array Slot) (hl : lv_has ls 1 [(0, .int a0)]) (K : ∀ (pc : Nat) (ls : Array Slot), decode cX7_isPicture pc = .ok (.ireturn, 1) → narrow .boolean (.int r) = .int r → W p l e R s m args below meth c H locs cells slots Q (F0 m pc ls [.int r])) : W p l e R s m args below meth c H locs cells slots Q (F0 m 0 ls []) := by
  unfold mX7_isPicture at hm
  refine lv_iload_n hx hb dX7_isPicture_0 rfl (lv_at hl 0 rfl) ?_
  refine lv_if_lt (tgt := 13) hx hb dX7_isPicture_1 (by decide) (fun c1 => ?_) (fun c1 => ?_)
  · rw [if_pos c1] at hm
    refine lv_iconst (v := (0 : Int32)) hx hb dX7_isPicture_13 (by decide) ?_
    subst hm
    exact K 14 ls dX7_isPicture_14 rfl
  · rw [if_neg c1] at hm
    refine lv_iload_n hx hb dX7_isPicture_4 rfl (lv_at hl 0 rfl) ?_
    refine lv_iconst (v := (5 : Int32)) hx hb dX7_isPicture_5 (by decide) ?_
    refine lv_icmp_ge (tgt := 13) hx hb dX7_isPicture_6 (by decide) (fun c2 => ?_) (fun c2 => ?_)
    · rw [if_pos c2] at hm
      refine lv_iconst (v := (0 : Int32)) hx hb dX7_isPicture_13 (by decide) ?_
      subst hm
      exact K 14 ls dX7_isPicture_14 rfl
    · rw [if_neg c2] at hm
      refine lv_iconst (v := (1 : Int32)) hx hb dX7_isPicture_9 (by decide) ?_
      refine lv_goto (tgt := 14) hx hb dX7_isPicture_10 (by decide) ?_
      subst hm
      exact K 14 ls dX7_isPicture_14 rfl
set_option maxHeartbeats 4000000 in
set_option maxRecDepth 100000 in
theorem tX7_isPicture (l : Launch) {a0 : Int32} {r : Int32} (hm : mX7_isPicture a0 = r) : Met l yX7_isPicture (.code yX7_isPicture cX7_isPicture 1 (some .boolean) :: tw) ({ frames := 0, cells := 0, slots := 0, locals := 0 } : Room) (va_Pc [.int a0] (fun _ => True)) (vp_Si (fun q => q = r ∧ narrow .boolean (.int q) = .int q)) 0 0 (fun _ => False) := by
  refine Met.ofW (cc := cX7_isPicture) (maxL := 1) (ret := (some .boolean)) (by decide) rfl ?_
  intro p e s m args below meth c s₁ B hml hv
  obtain ⟨rfl, -⟩ := hv
  have hx := B.exec
  have hb := B.bytes
  have hr := B.returns
  have hts : ∀ w ∈ tw, w.before _ s = true := fun w h => atoms_spec (ws := .code yX7_isPicture cX7_isPicture 1 (some .boolean) :: tw) B.pre w (List.mem_cons_of_mem _ h)
  have hown : s.vm.findClass RX7 = some m.cls := findClass_of_methodNamed B.named
  have hlocks := B.notSynchronized
  have hl := lv_entry ([.int a0]) (n := 1) (Nat.le_of_ble_eq_true rfl)
  rw [lg_entry_eq]
  generalize (lg_sl ([.int a0]) ++ List.replicate (1 - (lg_sl ([.int a0])).length) Slot.unset).toArray = ls at hl ⊢
  refine bX7_isPicture hx hb hml hown hts ⟨Nat.le_of_ble_eq_true rfl, Nat.le_of_ble_eq_true rfl, Nat.zero_le _, Nat.zero_le _⟩ hm ls hl (fun pc ls hd hz => ?_)
  exact W.zret hx hb hr hz (fun t ht hW => ⟨r, rfl, ⟨rfl, hz⟩, ht⟩) (fun q h => by cases h) hd
set_option maxHeartbeats 4000000 in
set_option maxRecDepth 100000 in
theorem kX7_isPicture {own : String} {cc : ByteArray} {nL idx pc : Nat} {ls : Array Slot} {rest : List Value} {a0 : Int32} (fx : CallFix p m c cc nL s args tw own) (hq : Cond.methodLink own idx yX7_isPicture ∈ tw) (hsz : ls.size = nL) (hR : 1 ≤ R.frames ∧ 20 ≤ R.locals ∧ cells ≤ R.cells ∧ slots ≤ R.slots) (hst : (rest.map fun v => v.category).sum ≤ 8) (hd : decode cc pc = .ok (.invokestatic idx, 3)) (kk : W p l e R s m args below meth c H locs cells slots Q (F0 m (pc + 3) ls (.int (mX7_isPicture a0) :: rest))) : W p l e R s m args below meth c H locs cells slots Q (F0 m pc ls (.int a0 :: rest)) := by
  exact vp_callSi (va_Run.run (va_runS (As := [.int a0]) (rest := rest) fx (tX7_isPicture l rfl) (va_cwS 1 fx.2.2.2.2 (tw_S2 hq qw_290 qw_288 qw_291) rfl rfl rfl (by decide +kernel) ⟨hR.1, hR.2.1⟩) ⟨fun a U g mk q => q, fun U hU hW => ⟨rfl, trivial⟩⟩ rfl rfl hsz rfl (lv_room hst) hd ⟨hR.2.2.1, hR.2.2.2⟩)) (fun r9 hr9 => by first | (rw [hr9]; exact kk) | (rw [hr9.1]; exact kk))
-- X7_isProgram
def mX7_isProgram (a0 : Int32) : Int32 :=
  (if a0 < 0 then (0 : Int32) else (if (3 : Int32) ≤ a0 then (0 : Int32) else (1 : Int32)))
theorem dX7_isProgram_0 : decode cX7_isProgram 0 = .ok (.iload_n 0, 1) := by decide +kernel
theorem dX7_isProgram_1 : decode cX7_isProgram 1 = .ok (.ifCond .lt 12, 3) := by decide +kernel
theorem dX7_isProgram_4 : decode cX7_isProgram 4 = .ok (.iload_n 0, 1) := by decide +kernel
theorem dX7_isProgram_5 : decode cX7_isProgram 5 = .ok (.iconst 3, 1) := by decide +kernel
theorem dX7_isProgram_6 : decode cX7_isProgram 6 = .ok (.if_icmp .ge 7, 3) := by decide +kernel
theorem dX7_isProgram_9 : decode cX7_isProgram 9 = .ok (.iconst 1, 1) := by decide +kernel
theorem dX7_isProgram_10 : decode cX7_isProgram 10 = .ok (.goto 4, 3) := by decide +kernel
theorem dX7_isProgram_13 : decode cX7_isProgram 13 = .ok (.iconst 0, 1) := by decide +kernel
theorem dX7_isProgram_14 : decode cX7_isProgram 14 = .ok (.ireturn, 1) := by decide +kernel
set_option maxHeartbeats 4000000 in
set_option maxRecDepth 100000 in
theorem bX7_isProgram {a0 : Int32} {r : Int32} (hx : p.tables.exec = Jvm.exec) (hb : c.code = cX7_isProgram) (hml : c.maxLocals = 1) (hown : s.vm.findClass RX7 = some m.cls) (hts : ∀ w ∈ tw, w.before args s = true) (hR : 0 ≤ R.frames ∧ 0 ≤ R.locals ∧ cells ≤ R.cells ∧ slots ≤ R.slots) (hm : mX7_isProgram a0 = r) (ls : Array Slot) (hl : lv_has ls 1 [(0, .int a0)]) (K : ∀ (pc : Nat) (ls : Array Slot), decode cX7_isProgram pc = .ok (.ireturn, 1) → narrow .boolean (.int r) = .int r → W p l e R s m args below meth c H locs cells slots Q (F0 m pc ls [.int r])) : W p l e R s m args below meth c H locs cells slots Q (F0 m 0 ls []) := by
  unfold mX7_isProgram at hm
  refine lv_iload_n hx hb dX7_isProgram_0 rfl (lv_at hl 0 rfl) ?_
  refine lv_if_lt (tgt := 13) hx hb dX7_isProgram_1 (by decide) (fun c1 => ?_) (fun c1 => ?_)
  · rw [if_pos c1] at hm
    refine lv_iconst (v := (0 : Int32)) hx hb dX7_isProgram_13 (by decide) ?_
    subst hm
    exact K 14 ls dX7_isProgram_14 rfl
  · rw [if_neg c1] at hm
    refine lv_iload_n hx hb dX7_isProgram_4 rfl (lv_at hl 0 rfl) ?_
    refine lv_iconst (v := (3 : Int32)) hx hb dX7_isProgram_5 (by decide) ?_
    refine lv_icmp_ge (tgt := 13) hx hb dX7_isProgram_6 (by decide) (fun c2 => ?_) (fun c2 => ?_)
    · rw [if_pos c2] at hm
      refine lv_iconst (v := (0 : Int32)) hx hb dX7_isProgram_13 (by decide) ?_
      subst hm
      exact K 14 ls dX7_isProgram_14 rfl
    · rw [if_neg c2] at hm
      refine lv_iconst (v := (1 : Int32)) hx hb dX7_isProgram_9 (by decide) ?_
      refine lv_goto (tgt := 14) hx hb dX7_isProgram_10 (by decide) ?_
      subst hm
      exact K 14 ls dX7_isProgram_14 rfl
set_option maxHeartbeats 4000000 in
set_option maxRecDepth 100000 in
theorem tX7_isProgram (l : Launch) {a0 : Int32} {r : Int32} (hm : mX7_isProgram a0 = r) : Met l yX7_isProgram (.code yX7_isProgram cX7_isProgram 1 (some .boolean) :: tw) ({ frames := 0, cells := 0, slots := 0, locals := 0 } : Room) (va_Pc [.int a0] (fun _ => True)) (vp_Si (fun q => q = r ∧ narrow .boolean (.int q) = .int q)) 0 0 (fun _ => False) := by
  refine Met.ofW (cc := cX7_isProgram) (maxL := 1) (ret := (some .boolean)) (by decide) rfl ?_
  intro p e s m args below meth c s₁ B hml hv
  obtain ⟨rfl, -⟩ := hv
  have hx := B.exec
  have hb := B.bytes
  have hr := B.returns
  have hts : ∀ w ∈ tw, w.before _ s = true := fun w h => atoms_spec (ws := .code yX7_isProgram cX7_isProgram 1 (some .boolean) :: tw) B.pre w (List.mem_cons_of_mem _ h)
  have hown : s.vm.findClass RX7 = some m.cls := findClass_of_methodNamed B.named
  have hlocks := B.notSynchronized
  have hl := lv_entry ([.int a0]) (n := 1) (Nat.le_of_ble_eq_true rfl)
  rw [lg_entry_eq]
  generalize (lg_sl ([.int a0]) ++ List.replicate (1 - (lg_sl ([.int a0])).length) Slot.unset).toArray = ls at hl ⊢
  refine bX7_isProgram hx hb hml hown hts ⟨Nat.le_of_ble_eq_true rfl, Nat.le_of_ble_eq_true rfl, Nat.zero_le _, Nat.zero_le _⟩ hm ls hl (fun pc ls hd hz => ?_)
  exact W.zret hx hb hr hz (fun t ht hW => ⟨r, rfl, ⟨rfl, hz⟩, ht⟩) (fun q h => by cases h) hd
set_option maxHeartbeats 4000000 in
set_option maxRecDepth 100000 in
theorem kX7_isProgram {own : String} {cc : ByteArray} {nL idx pc : Nat} {ls : Array Slot} {rest : List Value} {a0 : Int32} (fx : CallFix p m c cc nL s args tw own) (hq : Cond.methodLink own idx yX7_isProgram ∈ tw) (hsz : ls.size = nL) (hR : 1 ≤ R.frames ∧ 20 ≤ R.locals ∧ cells ≤ R.cells ∧ slots ≤ R.slots) (hst : (rest.map fun v => v.category).sum ≤ 8) (hd : decode cc pc = .ok (.invokestatic idx, 3)) (kk : W p l e R s m args below meth c H locs cells slots Q (F0 m (pc + 3) ls (.int (mX7_isProgram a0) :: rest))) : W p l e R s m args below meth c H locs cells slots Q (F0 m pc ls (.int a0 :: rest)) := by
  exact vp_callSi (va_Run.run (va_runS (As := [.int a0]) (rest := rest) fx (tX7_isProgram l rfl) (va_cwS 1 fx.2.2.2.2 (tw_S2 hq qw_292 qw_288 qw_293) rfl rfl rfl (by decide +kernel) ⟨hR.1, hR.2.1⟩) ⟨fun a U g mk q => q, fun U hU hW => ⟨rfl, trivial⟩⟩ rfl rfl hsz rfl (lv_room hst) hd ⟨hR.2.2.1, hR.2.2.2⟩)) (fun r9 hr9 => by first | (rw [hr9]; exact kk) | (rw [hr9.1]; exact kk))
-- X7_mixed
def mX7_mixed (a0 : Int32) (a1 : Int64) (a3 : Int64) : Int64 :=
  (if a0 = 0 then (a1 &&& a3) else (if a0 = (1 : Int32) then (a1 ||| a3) else (a1 &&& (a3 ^^^ (-1 : Int64)))))
theorem dX7_mixed_0 : decode cX7_mixed 0 = .ok (.iload_n 0, 1) := by decide +kernel
theorem dX7_mixed_1 : decode cX7_mixed 1 = .ok (.ifCond .ne 7, 3) := by decide +kernel
theorem dX7_mixed_4 : decode cX7_mixed 4 = .ok (.lload_n 1, 1) := by decide +kernel
theorem dX7_mixed_5 : decode cX7_mixed 5 = .ok (.lload_n 3, 1) := by decide +kernel
theorem dX7_mixed_6 : decode cX7_mixed 6 = .ok (.land, 1) := by decide +kernel
theorem dX7_mixed_7 : decode cX7_mixed 7 = .ok (.lreturn, 1) := by decide +kernel
theorem dX7_mixed_8 : decode cX7_mixed 8 = .ok (.iload_n 0, 1) := by decide +kernel
theorem dX7_mixed_9 : decode cX7_mixed 9 = .ok (.iconst 1, 1) := by decide +kernel
theorem dX7_mixed_10 : decode cX7_mixed 10 = .ok (.if_icmp .ne 9, 3) := by decide +kernel
theorem dX7_mixed_13 : decode cX7_mixed 13 = .ok (.lload_n 1, 1) := by decide +kernel
theorem dX7_mixed_14 : decode cX7_mixed 14 = .ok (.lload_n 3, 1) := by decide +kernel
theorem dX7_mixed_15 : decode cX7_mixed 15 = .ok (.lor, 1) := by decide +kernel
theorem dX7_mixed_16 : decode cX7_mixed 16 = .ok (.goto 10, 3) := by decide +kernel
theorem dX7_mixed_19 : decode cX7_mixed 19 = .ok (.lload_n 1, 1) := by decide +kernel
theorem dX7_mixed_20 : decode cX7_mixed 20 = .ok (.lload_n 3, 1) := by decide +kernel
theorem dX7_mixed_21 : decode cX7_mixed 21 = .ok (.ldc2_w 105, 3) := by decide +kernel
theorem dX7_mixed_24 : decode cX7_mixed 24 = .ok (.lxor, 1) := by decide +kernel
theorem dX7_mixed_25 : decode cX7_mixed 25 = .ok (.land, 1) := by decide +kernel
theorem dX7_mixed_26 : decode cX7_mixed 26 = .ok (.lreturn, 1) := by decide +kernel
set_option maxHeartbeats 4000000 in
set_option maxRecDepth 100000 in
theorem bX7_mixed {a0 : Int32} {a1 : Int64} {a3 : Int64} {r : Int64} (hx : p.tables.exec = Jvm.exec) (hb : c.code = cX7_mixed) (hml : c.maxLocals = 5) (hown : s.vm.findClass RX7 = some m.cls) (hts : ∀ w ∈ tw, w.before args s = true) (hR : 0 ≤ R.frames ∧ 0 ≤ R.locals ∧ cells ≤ R.cells ∧ slots ≤ R.slots) (hm : mX7_mixed a0 a1 a3 = r) (ls : Array Slot) (hl : lv_has ls 5 [(0, .int a0), (1, .long a1), (3, .long a3)]) (K : ∀ (pc : Nat) (ls : Array Slot), decode cX7_mixed pc = .ok (.lreturn, 1) → W p l e R s m args below meth c H locs cells slots Q (F0 m pc ls [.long r])) : W p l e R s m args below meth c H locs cells slots Q (F0 m 0 ls []) := by
  unfold mX7_mixed at hm
  refine lv_iload_n hx hb dX7_mixed_0 rfl (lv_at hl 0 rfl) ?_
  refine lv_if_ne (tgt := 8) hx hb dX7_mixed_1 (by decide) (fun c1 => ?_) (fun c1 => ?_)
  · rw [if_neg c1] at hm
    refine lv_iload_n hx hb dX7_mixed_8 rfl (lv_at hl 0 rfl) ?_
    refine lv_iconst (v := (1 : Int32)) hx hb dX7_mixed_9 (by decide) ?_
    refine lv_icmp_ne (tgt := 19) hx hb dX7_mixed_10 (by decide) (fun c2 => ?_) (fun c2 => ?_)
    · rw [if_neg c2] at hm
      refine lv_lload_n hx hb dX7_mixed_19 rfl (lv_at hl 1 rfl) ?_
      refine lv_lload_n hx hb dX7_mixed_20 rfl (lv_at hl 2 rfl) ?_
      refine lv_ldc2 (v := (-1 : Int64)) hx hb hown (hts _ qw_294) dX7_mixed_21 ?_
      refine lv_lxor hx hb dX7_mixed_24 ?_
      refine lv_land hx hb dX7_mixed_25 ?_
      subst hm
      exact K 26 ls dX7_mixed_26
    · rw [if_pos c2] at hm
      refine lv_lload_n hx hb dX7_mixed_13 rfl (lv_at hl 1 rfl) ?_
      refine lv_lload_n hx hb dX7_mixed_14 rfl (lv_at hl 2 rfl) ?_
      refine lv_lor hx hb dX7_mixed_15 ?_
      refine lv_goto (tgt := 26) hx hb dX7_mixed_16 (by decide) ?_
      subst hm
      exact K 26 ls dX7_mixed_26
  · rw [if_pos c1] at hm
    refine lv_lload_n hx hb dX7_mixed_4 rfl (lv_at hl 1 rfl) ?_
    refine lv_lload_n hx hb dX7_mixed_5 rfl (lv_at hl 2 rfl) ?_
    refine lv_land hx hb dX7_mixed_6 ?_
    subst hm
    exact K 7 ls dX7_mixed_7
set_option maxHeartbeats 4000000 in
set_option maxRecDepth 100000 in
theorem tX7_mixed (l : Launch) {a0 : Int32} {a1 : Int64} {a3 : Int64} {r : Int64} (hm : mX7_mixed a0 a1 a3 = r) : Met l yX7_mixed (.code yX7_mixed cX7_mixed 5 (some .long) :: tw) ({ frames := 0, cells := 0, slots := 0, locals := 0 } : Room) (va_Pc [.int a0, .long a1, .long a3] (fun _ => True)) (vp_Sl (fun q => q = r)) 0 0 (fun _ => False) := by
  refine Met.ofW (cc := cX7_mixed) (maxL := 5) (ret := (some .long)) (by decide) rfl ?_
  intro p e s m args below meth c s₁ B hml hv
  obtain ⟨rfl, -⟩ := hv
  have hx := B.exec
  have hb := B.bytes
  have hr := B.returns
  have hts : ∀ w ∈ tw, w.before _ s = true := fun w h => atoms_spec (ws := .code yX7_mixed cX7_mixed 5 (some .long) :: tw) B.pre w (List.mem_cons_of_mem _ h)
  have hown : s.vm.findClass RX7 = some m.cls := findClass_of_methodNamed B.named
  have hlocks := B.notSynchronized
  have hl := lv_entry ([.int a0, .long a1, .long a3]) (n := 5) (Nat.le_of_ble_eq_true rfl)
  rw [lg_entry_eq]
  generalize (lg_sl ([.int a0, .long a1, .long a3]) ++ List.replicate (5 - (lg_sl ([.int a0, .long a1, .long a3])).length) Slot.unset).toArray = ls at hl ⊢
  refine bX7_mixed hx hb hml hown hts ⟨Nat.le_of_ble_eq_true rfl, Nat.le_of_ble_eq_true rfl, Nat.zero_le _, Nat.zero_le _⟩ hm ls hl (fun pc ls hd => ?_)
  exact W.lret hx hb hr (fun t ht hW => ⟨r, rfl, rfl, ht⟩) (fun q h => by cases h) hd
set_option maxHeartbeats 4000000 in
set_option maxRecDepth 100000 in
theorem kX7_mixed {own : String} {cc : ByteArray} {nL idx pc : Nat} {ls : Array Slot} {rest : List Value} {a0 : Int32} {a1 : Int64} {a3 : Int64} (fx : CallFix p m c cc nL s args tw own) (hq : Cond.methodLink own idx yX7_mixed ∈ tw) (hsz : ls.size = nL) (hR : 1 ≤ R.frames ∧ 24 ≤ R.locals ∧ cells ≤ R.cells ∧ slots ≤ R.slots) (hst : (rest.map fun v => v.category).sum ≤ 8) (hd : decode cc pc = .ok (.invokestatic idx, 3)) (kk : W p l e R s m args below meth c H locs cells slots Q (F0 m (pc + 3) ls (.long (mX7_mixed a0 a1 a3) :: rest))) : W p l e R s m args below meth c H locs cells slots Q (F0 m pc ls (.long a3 :: .long a1 :: .int a0 :: rest)) := by
  exact vp_callSl (va_Run.run (va_runS (As := [.int a0, .long a1, .long a3]) (rest := rest) fx (tX7_mixed l rfl) (va_cwS 3 fx.2.2.2.2 (tw_S2 hq qw_295 qw_288 qw_296) rfl rfl rfl (by decide +kernel) ⟨hR.1, hR.2.1⟩) ⟨fun a U g mk q => q, fun U hU hW => ⟨rfl, trivial⟩⟩ rfl rfl hsz rfl (lv_room hst) hd ⟨hR.2.2.1, hR.2.2.2⟩)) (fun r9 hr9 => by first | (rw [hr9]; exact kk) | (rw [hr9.1]; exact kk))
-- X7_bitAt
def mX7_bitAt (xpi : Nat → Int64) (a1 : Int32) (a2 : Int32) : Option Int32 :=
  gd (ib a1 5) ((some ((((jlushr (xpi a1.toNatClampNeg) a2) &&& (1 : Int64))).toInt32)))
theorem dX7_bitAt_0 : decode cX7_bitAt 0 = .ok (.aload_n 0, 1) := by decide +kernel
theorem dX7_bitAt_1 : decode cX7_bitAt 1 = .ok (.getfield 18, 3) := by decide +kernel
theorem dX7_bitAt_4 : decode cX7_bitAt 4 = .ok (.iload_n 1, 1) := by decide +kernel
theorem dX7_bitAt_5 : decode cX7_bitAt 5 = .ok (.laload, 1) := by decide +kernel
theorem dX7_bitAt_6 : decode cX7_bitAt 6 = .ok (.iload_n 2, 1) := by decide +kernel
theorem dX7_bitAt_7 : decode cX7_bitAt 7 = .ok (.lushr, 1) := by decide +kernel
theorem dX7_bitAt_8 : decode cX7_bitAt 8 = .ok (.lconst 1, 1) := by decide +kernel
theorem dX7_bitAt_9 : decode cX7_bitAt 9 = .ok (.land, 1) := by decide +kernel
theorem dX7_bitAt_10 : decode cX7_bitAt 10 = .ok (.l2i, 1) := by decide +kernel
theorem dX7_bitAt_11 : decode cX7_bitAt 11 = .ok (.ireturn, 1) := by decide +kernel
set_option maxHeartbeats 4000000 in
set_option maxRecDepth 100000 in
theorem bX7_bitAt {a1 : Int32} {a2 : Int32} {r : Int32} (hx : p.tables.exec = Jvm.exec) (hb : c.code = cX7_bitAt) (hml : c.maxLocals = 3) (hown : s.vm.findClass RX7 = some m.cls) (hts : ∀ w ∈ tw, w.before args s = true) (hK : va_K D vwCl [(cI, .int), (cJ, .long), (cG, .object "WornShapes$Program")] s) (hP : va_P D vwCl (wdX cJ cG cI oX oXp oXg oG0 oGa0 oG1 oGa1 oG2 oGa2 oQ oQw oI oR oRh oRm oB oBw oS oSs oF oFr oFs oFc oFw xpi gs0 ga0 gs1 ga1 gs2 ga2 qln qwy ijn rsz rhi rmi bsz bfi bla bar bwi srim sst fw fc fwh fbo fra fst fco fro) H) (hR : 0 ≤ R.frames ∧ 0 ≤ R.locals ∧ cells ≤ R.cells ∧ slots ≤ R.slots) (hm : mX7_bitAt xpi a1 a2 = some r) (ls : Array Slot) (hl : lv_has ls 3 [(0, .ref oX), (1, .int a1), (2, .int a2)]) (K : ∀ (pc : Nat) (ls : Array Slot), decode cX7_bitAt pc = .ok (.ireturn, 1) → W p l e R s m args below meth c H locs cells slots Q (F0 m pc ls [.int r])) : W p l e R s m args below meth c H locs cells slots Q (F0 m 0 ls []) := by
  unfold mX7_bitAt at hm
  refine lv_aload_n hx hb dX7_bitAt_0 rfl (lv_at hl 0 rfl) ?_
  refine va_get (D := D) (ci := 7) (v := .ref oXp) (C := RX7) (T := TX7) (N := 8) hx hb hts tnX7 hown hK hP 0 rfl rfl 1 (by decide) (hts _ qw_297) (fun _ h9 => h9) rfl dX7_bitAt_1 ?_
  refine lv_iload_n hx hb dX7_bitAt_4 rfl (lv_at hl 1 rfl) ?_
  obtain ⟨g1, hm⟩ := gd_out hm
  refine va_lald hx hb hK hP 1 1 rfl rfl g1 dX7_bitAt_5 ?_
  refine lv_iload_n hx hb dX7_bitAt_6 rfl (lv_at hl 2 rfl) ?_
  refine lv_lushr (v := (jlushr (xpi a1.toNatClampNeg) a2)) hx hb dX7_bitAt_7 rfl ?_
  refine lv_lconst (v := (1 : Int64)) hx hb dX7_bitAt_8 (by decide) ?_
  refine lv_land hx hb dX7_bitAt_9 ?_
  refine lv_l2i (v := ((((jlushr (xpi a1.toNatClampNeg) a2) &&& (1 : Int64))).toInt32)) hx hb dX7_bitAt_10 rfl ?_
  have hm := Option.some.inj hm
  subst hm
  exact K 11 ls dX7_bitAt_11
set_option maxHeartbeats 4000000 in
set_option maxRecDepth 100000 in
theorem tX7_bitAt (l : Launch) {D : va_G} {a1 : Int32} {a2 : Int32} {r : Int32} (hm : mX7_bitAt xpi a1 a2 = some r) : Met l yX7_bitAt (.code yX7_bitAt cX7_bitAt 3 (some .int) :: tw) ({ frames := 0, cells := 0, slots := 0, locals := 0 } : Room) (rdP D [.ref oX, .int a1, .int a2] (wdX cJ cG cI oX oXp oXg oG0 oGa0 oG1 oGa1 oG2 oGa2 oQ oQw oI oR oRh oRm oB oBw oS oSs oF oFr oFs oFc oFw xpi gs0 ga0 gs1 ga1 gs2 ga2 qln qwy ijn rsz rhi rmi bsz bfi bla bar bwi srim sst fw fc fwh fbo fra fst fco fro) [(cI, .int), (cJ, .long), (cG, .object "WornShapes$Program")]) (vp_Si (fun q => q = r)) 0 0 (fun _ => False) := by
  refine Met.ofW (cc := cX7_bitAt) (maxL := 3) (ret := (some .int)) (by decide) rfl ?_
  intro p e s m args below meth c s₁ B hml hv
  obtain ⟨rfl, hP, hK⟩ := hv
  have hx := B.exec
  have hb := B.bytes
  have hr := B.returns
  have hts : ∀ w ∈ tw, w.before _ s = true := fun w h => atoms_spec (ws := .code yX7_bitAt cX7_bitAt 3 (some .int) :: tw) B.pre w (List.mem_cons_of_mem _ h)
  have hown : s.vm.findClass RX7 = some m.cls := findClass_of_methodNamed B.named
  have hlocks := B.notSynchronized
  have hl := lv_entry ([.ref oX, .int a1, .int a2]) (n := 3) (Nat.le_of_ble_eq_true rfl)
  rw [lg_entry_eq]
  generalize (lg_sl ([.ref oX, .int a1, .int a2]) ++ List.replicate (3 - (lg_sl ([.ref oX, .int a1, .int a2])).length) Slot.unset).toArray = ls at hl ⊢
  refine bX7_bitAt hx hb hml hown hts hK hP ⟨Nat.le_of_ble_eq_true rfl, Nat.le_of_ble_eq_true rfl, Nat.zero_le _, Nat.zero_le _⟩ hm ls hl (fun pc ls hd => ?_)
  exact W.iret hx hb hr (fun t ht hW => ⟨r, rfl, rfl, ht⟩) (fun q h => by cases h) hd
set_option maxHeartbeats 4000000 in
set_option maxRecDepth 100000 in
theorem kX7_bitAt {own : String} {cc : ByteArray} {nL idx pc : Nat} {ls : Array Slot} {rest : List Value} {a1 : Int32} {a2 : Int32} {r : Int32} (fx : CallFix p m c cc nL s args tw own) (hq : Cond.methodLink own idx yX7_bitAt ∈ tw) (hP : va_P D vwCl (wdX cJ cG cI oX oXp oXg oG0 oGa0 oG1 oGa1 oG2 oGa2 oQ oQw oI oR oRh oRm oB oBw oS oSs oF oFr oFs oFc oFw xpi gs0 ga0 gs1 ga1 gs2 ga2 qln qwy ijn rsz rhi rmi bsz bfi bla bar bwi srim sst fw fc fwh fbo fra fst fco fro) H) (hK : va_K D vwCl [(cI, .int), (cJ, .long), (cG, .object "WornShapes$Program")] s) (hm : mX7_bitAt xpi a1 a2 = some r) (hsz : ls.size = nL) (hR : 1 ≤ R.frames ∧ 22 ≤ R.locals ∧ cells ≤ R.cells ∧ slots ≤ R.slots) (hst : (rest.map fun v => v.category).sum ≤ 8) (hd : decode cc pc = .ok (.invokevirtual idx, 3)) (kk : W p l e R s m args below meth c H locs cells slots Q (F0 m (pc + 3) ls (.int r :: rest))) : W p l e R s m args below meth c H locs cells slots Q (F0 m pc ls (.int a2 :: .int a1 :: .ref oX :: rest)) := by
  exact vp_callSi (va_Run.run (va_runV (As := [.int a1, .int a2]) (rest := rest) fx (tX7_bitAt l hm) (cwV 2 fx.2.2.2.2 (tw_V hq qw_298 qw_299 qw_288 qw_300) rfl rfl rfl (by decide +kernel) ⟨hR.1, hR.2.1⟩) ⟨rdP_bl, va_recv hK hP (ci := 7) (q0 := 0) rfl rfl, rdP_ok hP hK⟩ rfl rfl hsz rfl (lv_room hst) hd ⟨hR.2.2.1, hR.2.2.2⟩)) (fun r9 hr9 => by first | (rw [hr9]; exact kk) | (rw [hr9.1]; exact kk))
-- X7_at
def mX7_at (fc : Int32) (xpi : Nat → Int64) (a1 : Int32) (a2 : Int32) : Option Int32 :=
  (if (mX7_isPicture a1) = 0 then (some (-1 : Int32)) else (if (mX1_isCell fc a2) = 0 then (some (-1 : Int32)) else jb (mX7_bitAt xpi a1 a2) (fun (r5 : Int32) => (some r5))))
theorem dX7_at_0 : decode cX7_at 0 = .ok (.iload_n 1, 1) := by decide +kernel
theorem dX7_at_1 : decode cX7_at 1 = .ok (.invokestatic 81, 3) := by decide +kernel
theorem dX7_at_4 : decode cX7_at 4 = .ok (.ifCond .eq 14, 3) := by decide +kernel
theorem dX7_at_7 : decode cX7_at 7 = .ok (.aload_n 0, 1) := by decide +kernel
theorem dX7_at_8 : decode cX7_at 8 = .ok (.getfield 14, 3) := by decide +kernel
theorem dX7_at_11 : decode cX7_at 11 = .ok (.iload_n 2, 1) := by decide +kernel
theorem dX7_at_12 : decode cX7_at 12 = .ok (.invokevirtual 84, 3) := by decide +kernel
theorem dX7_at_15 : decode cX7_at 15 = .ok (.ifCond .ne 5, 3) := by decide +kernel
theorem dX7_at_18 : decode cX7_at 18 = .ok (.iconst (-1), 1) := by decide +kernel
theorem dX7_at_19 : decode cX7_at 19 = .ok (.ireturn, 1) := by decide +kernel
theorem dX7_at_20 : decode cX7_at 20 = .ok (.aload_n 0, 1) := by decide +kernel
theorem dX7_at_21 : decode cX7_at 21 = .ok (.iload_n 1, 1) := by decide +kernel
theorem dX7_at_22 : decode cX7_at 22 = .ok (.iload_n 2, 1) := by decide +kernel
theorem dX7_at_23 : decode cX7_at 23 = .ok (.invokevirtual 87, 3) := by decide +kernel
theorem dX7_at_26 : decode cX7_at 26 = .ok (.ireturn, 1) := by decide +kernel
set_option maxHeartbeats 4000000 in
set_option maxRecDepth 100000 in
theorem bX7_at {a1 : Int32} {a2 : Int32} {r : Int32} (hx : p.tables.exec = Jvm.exec) (hb : c.code = cX7_at) (hml : c.maxLocals = 3) (hown : s.vm.findClass RX7 = some m.cls) (hts : ∀ w ∈ tw, w.before args s = true) (hK : va_K D vwCl [(cI, .int), (cJ, .long), (cG, .object "WornShapes$Program")] s) (hP : va_P D vwCl (wdX cJ cG cI oX oXp oXg oG0 oGa0 oG1 oGa1 oG2 oGa2 oQ oQw oI oR oRh oRm oB oBw oS oSs oF oFr oFs oFc oFw xpi gs0 ga0 gs1 ga1 gs2 ga2 qln qwy ijn rsz rhi rmi bsz bfi bla bar bwi srim sst fw fc fwh fbo fra fst fco fro) H) (hR : 1 ≤ R.frames ∧ 22 ≤ R.locals ∧ cells ≤ R.cells ∧ slots ≤ R.slots) (hm : mX7_at fc xpi a1 a2 = some r) (ls : Array Slot) (hl : lv_has ls 3 [(0, .ref oX), (1, .int a1), (2, .int a2)]) (K : ∀ (pc : Nat) (ls : Array Slot), decode cX7_at pc = .ok (.ireturn, 1) → W p l e R s m args below meth c H locs cells slots Q (F0 m pc ls [.int r])) : W p l e R s m args below meth c H locs cells slots Q (F0 m 0 ls []) := by
  unfold mX7_at at hm
  refine lv_iload_n hx hb dX7_at_0 rfl (lv_at hl 1 rfl) ?_
  refine kX7_isPicture ⟨hx, hb, hml, hown, hts⟩ qw_301 hl.1 ⟨Nat.le_trans (by decide) hR.1, Nat.le_trans (by decide) hR.2.1, hR.2.2⟩ (Nat.le_of_ble_eq_true rfl) dX7_at_1 ?_
  refine lv_if_eq (tgt := 18) hx hb dX7_at_4 (by decide) (fun c2 => ?_) (fun c2 => ?_)
  · rw [if_pos c2] at hm
    refine lv_iconst (v := (-1 : Int32)) hx hb dX7_at_18 (by decide) ?_
    have hm := Option.some.inj hm
    subst hm
    exact K 19 ls dX7_at_19
  · rw [if_neg c2] at hm
    refine lv_aload_n hx hb dX7_at_7 rfl (lv_at hl 0 rfl) ?_
    refine va_get (D := D) (ci := 7) (v := .ref oF) (C := RX7) (T := TX7) (N := 8) hx hb hts tnX7 hown hK hP 0 rfl rfl 0 (by decide) (hts _ qw_302) (fun _ h9 => h9) rfl dX7_at_8 ?_
    refine lv_iload_n hx hb dX7_at_11 rfl (lv_at hl 2 rfl) ?_
    refine kX1_isCell ⟨hx, hb, hml, hown, hts⟩ qw_303 (hP.sub (ws' := (wdF cI cJ oF oFr oFs oFc oFw fw fc fwh fbo fra fst fco fro)) [19, 20, 21, 22, 23] rfl) (hK.sub (tys' := [(cI, .int), (cJ, .long)]) [0, 1] rfl) hl.1 ⟨Nat.le_trans (by decide) hR.1, Nat.le_trans (by decide) hR.2.1, hR.2.2⟩ (Nat.le_of_ble_eq_true rfl) dX7_at_12 ?_
    refine lv_if_ne (tgt := 20) hx hb dX7_at_15 (by decide) (fun c4 => ?_) (fun c4 => ?_)
    · rw [if_neg c4] at hm
      refine lv_aload_n hx hb dX7_at_20 rfl (lv_at hl 0 rfl) ?_
      refine lv_iload_n hx hb dX7_at_21 rfl (lv_at hl 1 rfl) ?_
      refine lv_iload_n hx hb dX7_at_22 rfl (lv_at hl 2 rfl) ?_
      obtain ⟨r5, h6, hm⟩ := jb_out hm
      refine kX7_bitAt ⟨hx, hb, hml, hown, hts⟩ qw_304 hP hK h6 hl.1 ⟨Nat.le_trans (by decide) hR.1, Nat.le_trans (by decide) hR.2.1, hR.2.2⟩ (Nat.le_of_ble_eq_true rfl) dX7_at_23 ?_
      have hm := Option.some.inj hm
      subst hm
      exact K 26 ls dX7_at_26
    · rw [if_pos c4] at hm
      refine lv_iconst (v := (-1 : Int32)) hx hb dX7_at_18 (by decide) ?_
      have hm := Option.some.inj hm
      subst hm
      exact K 19 ls dX7_at_19
set_option maxHeartbeats 4000000 in
set_option maxRecDepth 100000 in
theorem tX7_at (l : Launch) {D : va_G} {a1 : Int32} {a2 : Int32} {r : Int32} (hm : mX7_at fc xpi a1 a2 = some r) : Met l yX7_at (.code yX7_at cX7_at 3 (some .int) :: tw) ({ frames := 1, cells := 0, slots := 0, locals := 22 } : Room) (rdP D [.ref oX, .int a1, .int a2] (wdX cJ cG cI oX oXp oXg oG0 oGa0 oG1 oGa1 oG2 oGa2 oQ oQw oI oR oRh oRm oB oBw oS oSs oF oFr oFs oFc oFw xpi gs0 ga0 gs1 ga1 gs2 ga2 qln qwy ijn rsz rhi rmi bsz bfi bla bar bwi srim sst fw fc fwh fbo fra fst fco fro) [(cI, .int), (cJ, .long), (cG, .object "WornShapes$Program")]) (vp_Si (fun q => q = r)) 0 0 (fun _ => False) := by
  refine Met.ofW (cc := cX7_at) (maxL := 3) (ret := (some .int)) (by decide) rfl ?_
  intro p e s m args below meth c s₁ B hml hv
  obtain ⟨rfl, hP, hK⟩ := hv
  have hx := B.exec
  have hb := B.bytes
  have hr := B.returns
  have hts : ∀ w ∈ tw, w.before _ s = true := fun w h => atoms_spec (ws := .code yX7_at cX7_at 3 (some .int) :: tw) B.pre w (List.mem_cons_of_mem _ h)
  have hown : s.vm.findClass RX7 = some m.cls := findClass_of_methodNamed B.named
  have hlocks := B.notSynchronized
  have hl := lv_entry ([.ref oX, .int a1, .int a2]) (n := 3) (Nat.le_of_ble_eq_true rfl)
  rw [lg_entry_eq]
  generalize (lg_sl ([.ref oX, .int a1, .int a2]) ++ List.replicate (3 - (lg_sl ([.ref oX, .int a1, .int a2])).length) Slot.unset).toArray = ls at hl ⊢
  refine bX7_at hx hb hml hown hts hK hP ⟨Nat.le_of_ble_eq_true rfl, Nat.le_of_ble_eq_true rfl, Nat.zero_le _, Nat.zero_le _⟩ hm ls hl (fun pc ls hd => ?_)
  exact W.iret hx hb hr (fun t ht hW => ⟨r, rfl, rfl, ht⟩) (fun q h => by cases h) hd
set_option maxHeartbeats 4000000 in
set_option maxRecDepth 100000 in
theorem kX7_at {own : String} {cc : ByteArray} {nL idx pc : Nat} {ls : Array Slot} {rest : List Value} {a1 : Int32} {a2 : Int32} {r : Int32} (fx : CallFix p m c cc nL s args tw own) (hq : Cond.methodLink own idx yX7_at ∈ tw) (hP : va_P D vwCl (wdX cJ cG cI oX oXp oXg oG0 oGa0 oG1 oGa1 oG2 oGa2 oQ oQw oI oR oRh oRm oB oBw oS oSs oF oFr oFs oFc oFw xpi gs0 ga0 gs1 ga1 gs2 ga2 qln qwy ijn rsz rhi rmi bsz bfi bla bar bwi srim sst fw fc fwh fbo fra fst fco fro) H) (hK : va_K D vwCl [(cI, .int), (cJ, .long), (cG, .object "WornShapes$Program")] s) (hm : mX7_at fc xpi a1 a2 = some r) (hsz : ls.size = nL) (hR : 2 ≤ R.frames ∧ 44 ≤ R.locals ∧ cells ≤ R.cells ∧ slots ≤ R.slots) (hst : (rest.map fun v => v.category).sum ≤ 8) (hd : decode cc pc = .ok (.invokevirtual idx, 3)) (kk : W p l e R s m args below meth c H locs cells slots Q (F0 m (pc + 3) ls (.int r :: rest))) : W p l e R s m args below meth c H locs cells slots Q (F0 m pc ls (.int a2 :: .int a1 :: .ref oX :: rest)) := by
  exact vp_callSi (va_Run.run (va_runV (As := [.int a1, .int a2]) (rest := rest) fx (tX7_at l hm) (cwV 2 fx.2.2.2.2 (tw_V hq qw_305 qw_306 qw_288 qw_307) rfl rfl rfl (by decide +kernel) ⟨hR.1, hR.2.1⟩) ⟨rdP_bl, va_recv hK hP (ci := 7) (q0 := 0) rfl rfl, rdP_ok hP hK⟩ rfl rfl hsz rfl (lv_room hst) hd ⟨hR.2.2.1, hR.2.2.2⟩)) (fun r9 hr9 => by first | (rw [hr9]; exact kk) | (rw [hr9.1]; exact kk))
-- X7_number
def mX7_number (xpi : Nat → Int64) (a1 : Int32) : Option Int64 :=
  (if (mX7_isPicture a1) = 0 then (some (-1 : Int64)) else gd (ib a1 5) ((some (xpi a1.toNatClampNeg))))
theorem dX7_number_0 : decode cX7_number 0 = .ok (.iload_n 1, 1) := by decide +kernel
theorem dX7_number_1 : decode cX7_number 1 = .ok (.invokestatic 81, 3) := by decide +kernel
theorem dX7_number_4 : decode cX7_number 4 = .ok (.ifCond .eq 12, 3) := by decide +kernel
theorem dX7_number_7 : decode cX7_number 7 = .ok (.aload_n 0, 1) := by decide +kernel
theorem dX7_number_8 : decode cX7_number 8 = .ok (.getfield 18, 3) := by decide +kernel
theorem dX7_number_11 : decode cX7_number 11 = .ok (.iload_n 1, 1) := by decide +kernel
theorem dX7_number_12 : decode cX7_number 12 = .ok (.laload, 1) := by decide +kernel
theorem dX7_number_13 : decode cX7_number 13 = .ok (.goto 6, 3) := by decide +kernel
theorem dX7_number_16 : decode cX7_number 16 = .ok (.ldc2_w 105, 3) := by decide +kernel
theorem dX7_number_19 : decode cX7_number 19 = .ok (.lreturn, 1) := by decide +kernel
set_option maxHeartbeats 4000000 in
set_option maxRecDepth 100000 in
theorem bX7_number {a1 : Int32} {r : Int64} (hx : p.tables.exec = Jvm.exec) (hb : c.code = cX7_number) (hml : c.maxLocals = 2) (hown : s.vm.findClass RX7 = some m.cls) (hts : ∀ w ∈ tw, w.before args s = true) (hK : va_K D vwCl [(cI, .int), (cJ, .long), (cG, .object "WornShapes$Program")] s) (hP : va_P D vwCl (wdX cJ cG cI oX oXp oXg oG0 oGa0 oG1 oGa1 oG2 oGa2 oQ oQw oI oR oRh oRm oB oBw oS oSs oF oFr oFs oFc oFw xpi gs0 ga0 gs1 ga1 gs2 ga2 qln qwy ijn rsz rhi rmi bsz bfi bla bar bwi srim sst fw fc fwh fbo fra fst fco fro) H) (hR : 1 ≤ R.frames ∧ 20 ≤ R.locals ∧ cells ≤ R.cells ∧ slots ≤ R.slots) (hm : mX7_number xpi a1 = some r) (ls : Array Slot) (hl : lv_has ls 2 [(0, .ref oX), (1, .int a1)]) (K : ∀ (pc : Nat) (ls : Array Slot), decode cX7_number pc = .ok (.lreturn, 1) → W p l e R s m args below meth c H locs cells slots Q (F0 m pc ls [.long r])) : W p l e R s m args below meth c H locs cells slots Q (F0 m 0 ls []) := by
  unfold mX7_number at hm
  refine lv_iload_n hx hb dX7_number_0 rfl (lv_at hl 1 rfl) ?_
  refine kX7_isPicture ⟨hx, hb, hml, hown, hts⟩ qw_301 hl.1 ⟨Nat.le_trans (by decide) hR.1, Nat.le_trans (by decide) hR.2.1, hR.2.2⟩ (Nat.le_of_ble_eq_true rfl) dX7_number_1 ?_
  refine lv_if_eq (tgt := 16) hx hb dX7_number_4 (by decide) (fun c2 => ?_) (fun c2 => ?_)
  · rw [if_pos c2] at hm
    refine lv_ldc2 (v := (-1 : Int64)) hx hb hown (hts _ qw_294) dX7_number_16 ?_
    have hm := Option.some.inj hm
    subst hm
    exact K 19 ls dX7_number_19
  · rw [if_neg c2] at hm
    refine lv_aload_n hx hb dX7_number_7 rfl (lv_at hl 0 rfl) ?_
    refine va_get (D := D) (ci := 7) (v := .ref oXp) (C := RX7) (T := TX7) (N := 8) hx hb hts tnX7 hown hK hP 0 rfl rfl 1 (by decide) (hts _ qw_297) (fun _ h9 => h9) rfl dX7_number_8 ?_
    refine lv_iload_n hx hb dX7_number_11 rfl (lv_at hl 1 rfl) ?_
    obtain ⟨g3, hm⟩ := gd_out hm
    refine va_lald hx hb hK hP 1 1 rfl rfl g3 dX7_number_12 ?_
    refine lv_goto (tgt := 19) hx hb dX7_number_13 (by decide) ?_
    have hm := Option.some.inj hm
    subst hm
    exact K 19 ls dX7_number_19
set_option maxHeartbeats 4000000 in
set_option maxRecDepth 100000 in
theorem tX7_number (l : Launch) {D : va_G} {a1 : Int32} {r : Int64} (hm : mX7_number xpi a1 = some r) : Met l yX7_number (.code yX7_number cX7_number 2 (some .long) :: tw) ({ frames := 1, cells := 0, slots := 0, locals := 20 } : Room) (rdP D [.ref oX, .int a1] (wdX cJ cG cI oX oXp oXg oG0 oGa0 oG1 oGa1 oG2 oGa2 oQ oQw oI oR oRh oRm oB oBw oS oSs oF oFr oFs oFc oFw xpi gs0 ga0 gs1 ga1 gs2 ga2 qln qwy ijn rsz rhi rmi bsz bfi bla bar bwi srim sst fw fc fwh fbo fra fst fco fro) [(cI, .int), (cJ, .long), (cG, .object "WornShapes$Program")]) (vp_Sl (fun q => q = r)) 0 0 (fun _ => False) := by
  refine Met.ofW (cc := cX7_number) (maxL := 2) (ret := (some .long)) (by decide) rfl ?_
  intro p e s m args below meth c s₁ B hml hv
  obtain ⟨rfl, hP, hK⟩ := hv
  have hx := B.exec
  have hb := B.bytes
  have hr := B.returns
  have hts : ∀ w ∈ tw, w.before _ s = true := fun w h => atoms_spec (ws := .code yX7_number cX7_number 2 (some .long) :: tw) B.pre w (List.mem_cons_of_mem _ h)
  have hown : s.vm.findClass RX7 = some m.cls := findClass_of_methodNamed B.named
  have hlocks := B.notSynchronized
  have hl := lv_entry ([.ref oX, .int a1]) (n := 2) (Nat.le_of_ble_eq_true rfl)
  rw [lg_entry_eq]
  generalize (lg_sl ([.ref oX, .int a1]) ++ List.replicate (2 - (lg_sl ([.ref oX, .int a1])).length) Slot.unset).toArray = ls at hl ⊢
  refine bX7_number hx hb hml hown hts hK hP ⟨Nat.le_of_ble_eq_true rfl, Nat.le_of_ble_eq_true rfl, Nat.zero_le _, Nat.zero_le _⟩ hm ls hl (fun pc ls hd => ?_)
  exact W.lret hx hb hr (fun t ht hW => ⟨r, rfl, rfl, ht⟩) (fun q h => by cases h) hd
set_option maxHeartbeats 4000000 in
set_option maxRecDepth 100000 in
theorem kX7_number {own : String} {cc : ByteArray} {nL idx pc : Nat} {ls : Array Slot} {rest : List Value} {a1 : Int32} {r : Int64} (fx : CallFix p m c cc nL s args tw own) (hq : Cond.methodLink own idx yX7_number ∈ tw) (hP : va_P D vwCl (wdX cJ cG cI oX oXp oXg oG0 oGa0 oG1 oGa1 oG2 oGa2 oQ oQw oI oR oRh oRm oB oBw oS oSs oF oFr oFs oFc oFw xpi gs0 ga0 gs1 ga1 gs2 ga2 qln qwy ijn rsz rhi rmi bsz bfi bla bar bwi srim sst fw fc fwh fbo fra fst fco fro) H) (hK : va_K D vwCl [(cI, .int), (cJ, .long), (cG, .object "WornShapes$Program")] s) (hm : mX7_number xpi a1 = some r) (hsz : ls.size = nL) (hR : 2 ≤ R.frames ∧ 41 ≤ R.locals ∧ cells ≤ R.cells ∧ slots ≤ R.slots) (hst : (rest.map fun v => v.category).sum ≤ 8) (hd : decode cc pc = .ok (.invokevirtual idx, 3)) (kk : W p l e R s m args below meth c H locs cells slots Q (F0 m (pc + 3) ls (.long r :: rest))) : W p l e R s m args below meth c H locs cells slots Q (F0 m pc ls (.int a1 :: .ref oX :: rest)) := by
  exact vp_callSl (va_Run.run (va_runV (As := [.int a1]) (rest := rest) fx (tX7_number l hm) (cwV 1 fx.2.2.2.2 (tw_V hq qw_308 qw_309 qw_288 qw_310) rfl rfl rfl (by decide +kernel) ⟨hR.1, hR.2.1⟩) ⟨rdP_bl, va_recv hK hP (ci := 7) (q0 := 0) rfl rfl, rdP_ok hP hK⟩ rfl rfl hsz rfl (lv_room hst) hd ⟨hR.2.2.1, hR.2.2.2⟩)) (fun r9 hr9 => by first | (rw [hr9]; exact kk) | (rw [hr9.1]; exact kk))
-- X7_would
def mX7_would (n : Nat) (fra : Nat → Int32) (fst : Nat → Int64) (sst : Nat → Int32) (fwh : Int64) (srim : Int32) (xpi : Nat → Int64) (a1 : Int32) (a2 : Int32) : Option Int32 :=
  (if (mX7_isPicture a1) = 0 then (some (-1 : Int32)) else (if (mX6_isAct a2) = 0 then (some (-2 : Int32)) else gd (ib a1 5) (gd (ib a1 5) (jb (mX6_made n fra fst sst fwh srim (xpi a1.toNatClampNeg) a2) (fun (r7 : Int64) => (some (mJ13_bitCount_95d88 ((xpi a1.toNatClampNeg) ^^^ r7))))))))
theorem dX7_would_0 : decode cX7_would 0 = .ok (.iload_n 1, 1) := by decide +kernel
theorem dX7_would_1 : decode cX7_would 1 = .ok (.invokestatic 81, 3) := by decide +kernel
theorem dX7_would_4 : decode cX7_would 4 = .ok (.ifCond .ne 5, 3) := by decide +kernel
theorem dX7_would_7 : decode cX7_would 7 = .ok (.iconst (-1), 1) := by decide +kernel
theorem dX7_would_8 : decode cX7_would 8 = .ok (.ireturn, 1) := by decide +kernel
theorem dX7_would_9 : decode cX7_would 9 = .ok (.iload_n 2, 1) := by decide +kernel
theorem dX7_would_10 : decode cX7_would 10 = .ok (.invokestatic 129, 3) := by decide +kernel
theorem dX7_would_13 : decode cX7_would 13 = .ok (.ifCond .ne 6, 3) := by decide +kernel
theorem dX7_would_16 : decode cX7_would 16 = .ok (.bipush (-2), 2) := by decide +kernel
theorem dX7_would_18 : decode cX7_would 18 = .ok (.ireturn, 1) := by decide +kernel
theorem dX7_would_19 : decode cX7_would 19 = .ok (.aload_n 0, 1) := by decide +kernel
theorem dX7_would_20 : decode cX7_would 20 = .ok (.getfield 18, 3) := by decide +kernel
theorem dX7_would_23 : decode cX7_would 23 = .ok (.iload_n 1, 1) := by decide +kernel
theorem dX7_would_24 : decode cX7_would 24 = .ok (.laload, 1) := by decide +kernel
theorem dX7_would_25 : decode cX7_would 25 = .ok (.aload_n 0, 1) := by decide +kernel
theorem dX7_would_26 : decode cX7_would 26 = .ok (.getfield 27, 3) := by decide +kernel
theorem dX7_would_29 : decode cX7_would 29 = .ok (.aload_n 0, 1) := by decide +kernel
theorem dX7_would_30 : decode cX7_would 30 = .ok (.getfield 18, 3) := by decide +kernel
theorem dX7_would_33 : decode cX7_would 33 = .ok (.iload_n 1, 1) := by decide +kernel
theorem dX7_would_34 : decode cX7_would 34 = .ok (.laload, 1) := by decide +kernel
theorem dX7_would_35 : decode cX7_would 35 = .ok (.iload_n 2, 1) := by decide +kernel
theorem dX7_would_36 : decode cX7_would 36 = .ok (.invokevirtual 132, 3) := by decide +kernel
theorem dX7_would_39 : decode cX7_would 39 = .ok (.lxor, 1) := by decide +kernel
theorem dX7_would_40 : decode cX7_would 40 = .ok (.invokestatic 99, 3) := by decide +kernel
theorem dX7_would_43 : decode cX7_would 43 = .ok (.ireturn, 1) := by decide +kernel
set_option maxHeartbeats 4000000 in
set_option maxRecDepth 100000 in
theorem bX7_would {n : Nat} {a1 : Int32} {a2 : Int32} {r : Int32} (hx : p.tables.exec = Jvm.exec) (hb : c.code = cX7_would) (hml : c.maxLocals = 3) (hown : s.vm.findClass RX7 = some m.cls) (hts : ∀ w ∈ tw, w.before args s = true) (hK : va_K D vwCl [(cI, .int), (cJ, .long), (cG, .object "WornShapes$Program")] s) (hP : va_P D vwCl (wdX cJ cG cI oX oXp oXg oG0 oGa0 oG1 oGa1 oG2 oGa2 oQ oQw oI oR oRh oRm oB oBw oS oSs oF oFr oFs oFc oFw xpi gs0 ga0 gs1 ga1 gs2 ga2 qln qwy ijn rsz rhi rmi bsz bfi bla bar bwi srim sst fw fc fwh fbo fra fst fco fro) H) (hR : 4 ≤ R.frames ∧ 99 ≤ R.locals ∧ cells ≤ R.cells ∧ slots ≤ R.slots) (hm : mX7_would n fra fst sst fwh srim xpi a1 a2 = some r) (ls : Array Slot) (hl : lv_has ls 3 [(0, .ref oX), (1, .int a1), (2, .int a2)]) (K : ∀ (pc : Nat) (ls : Array Slot), decode cX7_would pc = .ok (.ireturn, 1) → W p l e R s m args below meth c H locs cells slots Q (F0 m pc ls [.int r])) : W p l e R s m args below meth c H locs cells slots Q (F0 m 0 ls []) := by
  unfold mX7_would at hm
  refine lv_iload_n hx hb dX7_would_0 rfl (lv_at hl 1 rfl) ?_
  refine kX7_isPicture ⟨hx, hb, hml, hown, hts⟩ qw_301 hl.1 ⟨Nat.le_trans (by decide) hR.1, Nat.le_trans (by decide) hR.2.1, hR.2.2⟩ (Nat.le_of_ble_eq_true rfl) dX7_would_1 ?_
  refine lv_if_ne (tgt := 9) hx hb dX7_would_4 (by decide) (fun c2 => ?_) (fun c2 => ?_)
  · rw [if_neg c2] at hm
    refine lv_iload_n hx hb dX7_would_9 rfl (lv_at hl 2 rfl) ?_
    refine kX6_isAct ⟨hx, hb, hml, hown, hts⟩ qw_311 hl.1 ⟨Nat.le_trans (by decide) hR.1, Nat.le_trans (by decide) hR.2.1, hR.2.2⟩ (Nat.le_of_ble_eq_true rfl) dX7_would_10 ?_
    refine lv_if_ne (tgt := 19) hx hb dX7_would_13 (by decide) (fun c4 => ?_) (fun c4 => ?_)
    · rw [if_neg c4] at hm
      refine lv_aload_n hx hb dX7_would_19 rfl (lv_at hl 0 rfl) ?_
      refine va_get (D := D) (ci := 7) (v := .ref oXp) (C := RX7) (T := TX7) (N := 8) hx hb hts tnX7 hown hK hP 0 rfl rfl 1 (by decide) (hts _ qw_297) (fun _ h9 => h9) rfl dX7_would_20 ?_
      refine lv_iload_n hx hb dX7_would_23 rfl (lv_at hl 1 rfl) ?_
      obtain ⟨g5, hm⟩ := gd_out hm
      refine va_lald hx hb hK hP 1 1 rfl rfl g5 dX7_would_24 ?_
      refine lv_aload_n hx hb dX7_would_25 rfl (lv_at hl 0 rfl) ?_
      refine va_get (D := D) (ci := 7) (v := .ref oS) (C := RX7) (T := TX7) (N := 8) hx hb hts tnX7 hown hK hP 0 rfl rfl 2 (by decide) (hts _ qw_312) (fun _ h9 => h9) rfl dX7_would_26 ?_
      refine lv_aload_n hx hb dX7_would_29 rfl (lv_at hl 0 rfl) ?_
      refine va_get (D := D) (ci := 7) (v := .ref oXp) (C := RX7) (T := TX7) (N := 8) hx hb hts tnX7 hown hK hP 0 rfl rfl 1 (by decide) (hts _ qw_297) (fun _ h9 => h9) rfl dX7_would_30 ?_
      refine lv_iload_n hx hb dX7_would_33 rfl (lv_at hl 1 rfl) ?_
      obtain ⟨g6, hm⟩ := gd_out hm
      refine va_lald hx hb hK hP 1 1 rfl rfl g6 dX7_would_34 ?_
      refine lv_iload_n hx hb dX7_would_35 rfl (lv_at hl 2 rfl) ?_
      obtain ⟨r7, h8, hm⟩ := jb_out hm
      refine kX6_made ⟨hx, hb, hml, hown, hts⟩ qw_313 (hP.sub (ws' := (wdS cI cJ oS oSs oF oFr oFs oFc oFw srim sst fw fc fwh fbo fra fst fco fro)) [17, 18, 19, 20, 21, 22, 23] rfl) (hK.sub (tys' := [(cI, .int), (cJ, .long)]) [0, 1] rfl) h8 hl.1 ⟨Nat.le_trans (by decide) hR.1, Nat.le_trans (by decide) hR.2.1, hR.2.2⟩ (Nat.le_of_ble_eq_true rfl) dX7_would_36 ?_
      refine lv_lxor hx hb dX7_would_39 ?_
      refine kJ13_bitCount_95d88 ⟨hx, hb, hml, hown, hts⟩ qw_314 hl.1 ⟨Nat.le_trans (by decide) hR.1, Nat.le_trans (by decide) hR.2.1, hR.2.2⟩ (Nat.le_of_ble_eq_true rfl) dX7_would_40 ?_
      have hm := Option.some.inj hm
      subst hm
      exact K 43 ls dX7_would_43
    · rw [if_pos c4] at hm
      refine lv_bipush (v := (-2 : Int32)) hx hb dX7_would_16 (by decide) ?_
      have hm := Option.some.inj hm
      subst hm
      exact K 18 ls dX7_would_18
  · rw [if_pos c2] at hm
    refine lv_iconst (v := (-1 : Int32)) hx hb dX7_would_7 (by decide) ?_
    have hm := Option.some.inj hm
    subst hm
    exact K 8 ls dX7_would_8
set_option maxHeartbeats 4000000 in
set_option maxRecDepth 100000 in
theorem tX7_would (l : Launch) {D : va_G} {n : Nat} {a1 : Int32} {a2 : Int32} {r : Int32} (hm : mX7_would n fra fst sst fwh srim xpi a1 a2 = some r) : Met l yX7_would (.code yX7_would cX7_would 3 (some .int) :: tw) ({ frames := 4, cells := 0, slots := 0, locals := 99 } : Room) (rdP D [.ref oX, .int a1, .int a2] (wdX cJ cG cI oX oXp oXg oG0 oGa0 oG1 oGa1 oG2 oGa2 oQ oQw oI oR oRh oRm oB oBw oS oSs oF oFr oFs oFc oFw xpi gs0 ga0 gs1 ga1 gs2 ga2 qln qwy ijn rsz rhi rmi bsz bfi bla bar bwi srim sst fw fc fwh fbo fra fst fco fro) [(cI, .int), (cJ, .long), (cG, .object "WornShapes$Program")]) (vp_Si (fun q => q = r)) 0 0 (fun _ => False) := by
  refine Met.ofW (cc := cX7_would) (maxL := 3) (ret := (some .int)) (by decide) rfl ?_
  intro p e s m args below meth c s₁ B hml hv
  obtain ⟨rfl, hP, hK⟩ := hv
  have hx := B.exec
  have hb := B.bytes
  have hr := B.returns
  have hts : ∀ w ∈ tw, w.before _ s = true := fun w h => atoms_spec (ws := .code yX7_would cX7_would 3 (some .int) :: tw) B.pre w (List.mem_cons_of_mem _ h)
  have hown : s.vm.findClass RX7 = some m.cls := findClass_of_methodNamed B.named
  have hlocks := B.notSynchronized
  have hl := lv_entry ([.ref oX, .int a1, .int a2]) (n := 3) (Nat.le_of_ble_eq_true rfl)
  rw [lg_entry_eq]
  generalize (lg_sl ([.ref oX, .int a1, .int a2]) ++ List.replicate (3 - (lg_sl ([.ref oX, .int a1, .int a2])).length) Slot.unset).toArray = ls at hl ⊢
  refine bX7_would hx hb hml hown hts hK hP ⟨Nat.le_of_ble_eq_true rfl, Nat.le_of_ble_eq_true rfl, Nat.zero_le _, Nat.zero_le _⟩ hm ls hl (fun pc ls hd => ?_)
  exact W.iret hx hb hr (fun t ht hW => ⟨r, rfl, rfl, ht⟩) (fun q h => by cases h) hd
set_option maxHeartbeats 4000000 in
set_option maxRecDepth 100000 in
theorem kX7_would {own : String} {cc : ByteArray} {nL idx pc : Nat} {ls : Array Slot} {rest : List Value} {n : Nat} {a1 : Int32} {a2 : Int32} {r : Int32} (fx : CallFix p m c cc nL s args tw own) (hq : Cond.methodLink own idx yX7_would ∈ tw) (hP : va_P D vwCl (wdX cJ cG cI oX oXp oXg oG0 oGa0 oG1 oGa1 oG2 oGa2 oQ oQw oI oR oRh oRm oB oBw oS oSs oF oFr oFs oFc oFw xpi gs0 ga0 gs1 ga1 gs2 ga2 qln qwy ijn rsz rhi rmi bsz bfi bla bar bwi srim sst fw fc fwh fbo fra fst fco fro) H) (hK : va_K D vwCl [(cI, .int), (cJ, .long), (cG, .object "WornShapes$Program")] s) (hm : mX7_would n fra fst sst fwh srim xpi a1 a2 = some r) (hsz : ls.size = nL) (hR : 5 ≤ R.frames ∧ 121 ≤ R.locals ∧ cells ≤ R.cells ∧ slots ≤ R.slots) (hst : (rest.map fun v => v.category).sum ≤ 8) (hd : decode cc pc = .ok (.invokevirtual idx, 3)) (kk : W p l e R s m args below meth c H locs cells slots Q (F0 m (pc + 3) ls (.int r :: rest))) : W p l e R s m args below meth c H locs cells slots Q (F0 m pc ls (.int a2 :: .int a1 :: .ref oX :: rest)) := by
  exact vp_callSi (va_Run.run (va_runV (As := [.int a1, .int a2]) (rest := rest) fx (tX7_would l hm) (cwV 2 fx.2.2.2.2 (tw_V hq qw_315 qw_316 qw_288 qw_317) rfl rfl rfl (by decide +kernel) ⟨hR.1, hR.2.1⟩) ⟨rdP_bl, va_recv hK hP (ci := 7) (q0 := 0) rfl rfl, rdP_ok hP hK⟩ rfl rfl hsz rfl (lv_room hst) hd ⟨hR.2.2.1, hR.2.2.2⟩)) (fun r9 hr9 => by first | (rw [hr9]; exact kk) | (rw [hr9.1]; exact kk))
-- X7_differ
def mX7_differ_L44 (n : Nat) (v3 : Int32) (v1 : Int32) (gs0 : Int32) (gs1 : Int32) (gs2 : Int32) (fra : Nat → Int32) (fst : Nat → Int64) (sst : Nat → Int32) (fwh : Int64) (srim : Int32) (ga0 : Nat → Int32) (ga1 : Nat → Int32) (ga2 : Nat → Int32) (v2 : Int32) : Nat → (Int32) → Option (((Int32)) ⊕ (Unit))
  | 0, _ => none
  | k + 1, v4 => (if v3 ≤ v4 then some (.inr (())) else gd (ib v1 3) (jb (mX4_madeOf n (s3 v1 gs0 gs1 gs2) fra fst sst fwh srim (s3 v1 ga0 ga1 ga2) ((v4).toInt64)) (fun (r9 : Int64) => gd (ib v2 3) (jb (mX4_madeOf n (s3 v2 gs0 gs1 gs2) fra fst sst fwh srim (s3 v2 ga0 ga1 ga2) ((v4).toInt64)) (fun (r12 : Int64) => (if r9 = r12 then mX7_differ_L44 n v3 v1 gs0 gs1 gs2 fra fst sst fwh srim ga0 ga1 ga2 v2 k (v4 + (1 : Int32)) else some (.inl (v4))))))))
def mX7_differ (n : Nat) (fc : Int32) (gs0 : Int32) (gs1 : Int32) (gs2 : Int32) (fra : Nat → Int32) (fst : Nat → Int64) (sst : Nat → Int32) (fwh : Int64) (srim : Int32) (ga0 : Nat → Int32) (ga1 : Nat → Int32) (ga2 : Nat → Int32) (a1 : Int32) (a2 : Int32) : Option Int32 :=
  (if (mX7_isProgram a1) = 0 then (some (-1 : Int32)) else (if (mX7_isProgram a2) = 0 then (some (-1 : Int32)) else (if fc ≤ (12 : Int32) then jb (mX7_differ_L44 n ((1 : Int32) <<< (fc &&& 31)) a1 gs0 gs1 gs2 fra fst sst fwh srim ga0 ga1 ga2 a2 n (0 : Int32)) (fun q => el2 q (fun (y15 : Int32) => (some y15)) (fun (_ : Unit) => (some (-9 : Int32)))) else (some (-3 : Int32)))))
theorem dX7_differ_0 : decode cX7_differ 0 = .ok (.iload_n 1, 1) := by decide +kernel
theorem dX7_differ_1 : decode cX7_differ 1 = .ok (.invokestatic 136, 3) := by decide +kernel
theorem dX7_differ_4 : decode cX7_differ 4 = .ok (.ifCond .eq 10, 3) := by decide +kernel
theorem dX7_differ_7 : decode cX7_differ 7 = .ok (.iload_n 2, 1) := by decide +kernel
theorem dX7_differ_8 : decode cX7_differ 8 = .ok (.invokestatic 136, 3) := by decide +kernel
theorem dX7_differ_11 : decode cX7_differ 11 = .ok (.ifCond .ne 5, 3) := by decide +kernel
theorem dX7_differ_14 : decode cX7_differ 14 = .ok (.iconst (-1), 1) := by decide +kernel
theorem dX7_differ_15 : decode cX7_differ 15 = .ok (.ireturn, 1) := by decide +kernel
theorem dX7_differ_16 : decode cX7_differ 16 = .ok (.aload_n 0, 1) := by decide +kernel
theorem dX7_differ_17 : decode cX7_differ 17 = .ok (.getfield 14, 3) := by decide +kernel
theorem dX7_differ_20 : decode cX7_differ 20 = .ok (.getfield 77, 3) := by decide +kernel
theorem dX7_differ_23 : decode cX7_differ 23 = .ok (.bipush 12, 2) := by decide +kernel
theorem dX7_differ_25 : decode cX7_differ 25 = .ok (.if_icmp .le 6, 3) := by decide +kernel
theorem dX7_differ_28 : decode cX7_differ 28 = .ok (.bipush (-3), 2) := by decide +kernel
theorem dX7_differ_30 : decode cX7_differ 30 = .ok (.ireturn, 1) := by decide +kernel
theorem dX7_differ_31 : decode cX7_differ 31 = .ok (.iconst 1, 1) := by decide +kernel
theorem dX7_differ_32 : decode cX7_differ 32 = .ok (.aload_n 0, 1) := by decide +kernel
theorem dX7_differ_33 : decode cX7_differ 33 = .ok (.getfield 14, 3) := by decide +kernel
theorem dX7_differ_36 : decode cX7_differ 36 = .ok (.getfield 77, 3) := by decide +kernel
theorem dX7_differ_39 : decode cX7_differ 39 = .ok (.ishl, 1) := by decide +kernel
theorem dX7_differ_40 : decode cX7_differ 40 = .ok (.istore_n 3, 1) := by decide +kernel
theorem dX7_differ_41 : decode cX7_differ 41 = .ok (.iconst 0, 1) := by decide +kernel
theorem dX7_differ_42 : decode cX7_differ 42 = .ok (.istore 4, 2) := by decide +kernel
theorem dX7_differ_44 : decode cX7_differ 44 = .ok (.iload 4, 2) := by decide +kernel
theorem dX7_differ_46 : decode cX7_differ 46 = .ok (.iload_n 3, 1) := by decide +kernel
theorem dX7_differ_47 : decode cX7_differ 47 = .ok (.if_icmp .ge 40, 3) := by decide +kernel
theorem dX7_differ_50 : decode cX7_differ 50 = .ok (.aload_n 0, 1) := by decide +kernel
theorem dX7_differ_51 : decode cX7_differ 51 = .ok (.getfield 33, 3) := by decide +kernel
theorem dX7_differ_54 : decode cX7_differ 54 = .ok (.iload_n 1, 1) := by decide +kernel
theorem dX7_differ_55 : decode cX7_differ 55 = .ok (.aaload, 1) := by decide +kernel
theorem dX7_differ_56 : decode cX7_differ 56 = .ok (.iload 4, 2) := by decide +kernel
theorem dX7_differ_58 : decode cX7_differ 58 = .ok (.i2l, 1) := by decide +kernel
theorem dX7_differ_59 : decode cX7_differ 59 = .ok (.invokevirtual 145, 3) := by decide +kernel
theorem dX7_differ_62 : decode cX7_differ 62 = .ok (.aload_n 0, 1) := by decide +kernel
theorem dX7_differ_63 : decode cX7_differ 63 = .ok (.getfield 33, 3) := by decide +kernel
theorem dX7_differ_66 : decode cX7_differ 66 = .ok (.iload_n 2, 1) := by decide +kernel
theorem dX7_differ_67 : decode cX7_differ 67 = .ok (.aaload, 1) := by decide +kernel
theorem dX7_differ_68 : decode cX7_differ 68 = .ok (.iload 4, 2) := by decide +kernel
theorem dX7_differ_70 : decode cX7_differ 70 = .ok (.i2l, 1) := by decide +kernel
theorem dX7_differ_71 : decode cX7_differ 71 = .ok (.invokevirtual 145, 3) := by decide +kernel
theorem dX7_differ_74 : decode cX7_differ 74 = .ok (.lcmp, 1) := by decide +kernel
theorem dX7_differ_75 : decode cX7_differ 75 = .ok (.ifCond .eq 6, 3) := by decide +kernel
theorem dX7_differ_78 : decode cX7_differ 78 = .ok (.iload 4, 2) := by decide +kernel
theorem dX7_differ_80 : decode cX7_differ 80 = .ok (.ireturn, 1) := by decide +kernel
theorem dX7_differ_81 : decode cX7_differ 81 = .ok (.iinc 4 1, 3) := by decide +kernel
theorem dX7_differ_84 : decode cX7_differ 84 = .ok (.goto (-40), 3) := by decide +kernel
theorem dX7_differ_87 : decode cX7_differ 87 = .ok (.bipush (-9), 2) := by decide +kernel
theorem dX7_differ_89 : decode cX7_differ 89 = .ok (.ireturn, 1) := by decide +kernel
set_option maxHeartbeats 4000000 in
set_option maxRecDepth 100000 in
theorem wX7_differ_L44 {n : Nat} {v1 : Int32} {v2 : Int32} {v3 : Int32} (hx : p.tables.exec = Jvm.exec) (hb : c.code = cX7_differ) (hml : c.maxLocals = 5) (hown : s.vm.findClass RX7 = some m.cls) (hts : ∀ w ∈ tw, w.before args s = true) (hK : va_K D vwCl [(cI, .int), (cJ, .long), (cG, .object "WornShapes$Program")] s) (hP : va_P D vwCl (wdX cJ cG cI oX oXp oXg oG0 oGa0 oG1 oGa1 oG2 oGa2 oQ oQw oI oR oRh oRm oB oBw oS oSs oF oFr oFs oFc oFw xpi gs0 ga0 gs1 ga1 gs2 ga2 qln qwy ijn rsz rhi rmi bsz bfi bla bar bwi srim sst fw fc fwh fbo fra fst fco fro) H) (hR : 5 ≤ R.frames ∧ 124 ≤ R.locals ∧ cells ≤ R.cells ∧ slots ≤ R.slots) : ∀ (k : Nat) (v4 : Int32) (x : ((Int32)) ⊕ (Unit)), mX7_differ_L44 n v3 v1 gs0 gs1 gs2 fra fst sst fwh srim ga0 ga1 ga2 v2 k v4 = some x → ∀ ls : Array Slot, lv_has ls 5 [(0, .ref oX), (1, .int v1), (2, .int v2), (3, .int v3), (4, .int v4)] → (∀ (x4 : Int32), x = .inl (x4) → ∀ ls : Array Slot, lv_has ls 5 [(4, .int x4)] → W p l e R s m args below meth c H locs cells slots Q (F0 m 78 ls [])) → (x = .inr (()) → ∀ ls : Array Slot, lv_has ls 5 [] → W p l e R s m args below meth c H locs cells slots Q (F0 m 87 ls [])) → W p l e R s m args below meth c H locs cells slots Q (F0 m 44 ls []) := by
  intro k
  induction k with
  | zero => intro v4 x hm; rw [mX7_differ_L44] at hm; cases hm
  | succ k ih =>
    intro v4 x hm ls hl K0 K1
    rw [mX7_differ_L44] at hm
    refine lv_iload hx hb dX7_differ_44 (lv_at hl 4 rfl) ?_
    refine lv_iload_n hx hb dX7_differ_46 rfl (lv_at hl 3 rfl) ?_
    refine lv_icmp_ge (tgt := 87) hx hb dX7_differ_47 (by decide) (fun c7 => ?_) (fun c7 => ?_)
    · rw [if_pos c7] at hm
      exact K1  (Option.some.inj hm).symm ls (lv_sub hl [] rfl)
    · rw [if_neg c7] at hm
      refine lv_aload_n hx hb dX7_differ_50 rfl (lv_at hl 0 rfl) ?_
      refine va_get (D := D) (ci := 7) (v := .ref oXg) (C := RX7) (T := TX7) (N := 8) hx hb hts tnX7 hown hK hP 0 rfl rfl 3 (by decide) (hts _ qw_320) (fun _ h9 => h9) rfl dX7_differ_51 ?_
      refine lv_iload_n hx hb dX7_differ_54 rfl (lv_at hl 1 rfl) ?_
      obtain ⟨g8, hm⟩ := gd_out hm
      refine va_aldq hx hb hK hP 2 2 rfl rfl g8 dX7_differ_55 ?_
      rw [p3_s3 g8]
      refine lv_iload hx hb dX7_differ_56 (lv_at hl 4 rfl) ?_
      refine lv_i2l (v := ((v4).toInt64)) hx hb dX7_differ_58 rfl ?_
      obtain ⟨r9, h10, hm⟩ := jb_out hm
      refine kX4_madeOf ⟨hx, hb, hml, hown, hts⟩ qw_321 (pick3 g8 hP) (hK.sub (tys' := [(cI, .int), (cJ, .long)]) [0, 1] rfl) h10 hl.1 ⟨Nat.le_trans (by decide) hR.1, Nat.le_trans (by decide) hR.2.1, hR.2.2⟩ (Nat.le_of_ble_eq_true rfl) dX7_differ_59 ?_
      refine lv_aload_n hx hb dX7_differ_62 rfl (lv_at hl 0 rfl) ?_
      refine va_get (D := D) (ci := 7) (v := .ref oXg) (C := RX7) (T := TX7) (N := 8) hx hb hts tnX7 hown hK hP 0 rfl rfl 3 (by decide) (hts _ qw_320) (fun _ h9 => h9) rfl dX7_differ_63 ?_
      refine lv_iload_n hx hb dX7_differ_66 rfl (lv_at hl 2 rfl) ?_
      obtain ⟨g11, hm⟩ := gd_out hm
      refine va_aldq hx hb hK hP 2 2 rfl rfl g11 dX7_differ_67 ?_
      rw [p3_s3 g11]
      refine lv_iload hx hb dX7_differ_68 (lv_at hl 4 rfl) ?_
      refine lv_i2l (v := ((v4).toInt64)) hx hb dX7_differ_70 rfl ?_
      obtain ⟨r12, h13, hm⟩ := jb_out hm
      refine kX4_madeOf ⟨hx, hb, hml, hown, hts⟩ qw_321 (pick3 g11 hP) (hK.sub (tys' := [(cI, .int), (cJ, .long)]) [0, 1] rfl) h13 hl.1 ⟨Nat.le_trans (by decide) hR.1, Nat.le_trans (by decide) hR.2.1, hR.2.2⟩ (Nat.le_of_ble_eq_true rfl) dX7_differ_71 ?_
      refine W.lcmp hx hb dX7_differ_74 ?_
      refine lv_if_eq (tgt := 81) hx hb dX7_differ_75 (by decide) (fun c14 => ?_) (fun c14 => ?_)
      · have c14 := (lg_cmp_eq r9 r12).mp c14
        rw [if_pos c14] at hm
        refine lv_iinc (v := (v4 + (1 : Int32))) (lv' := [(4, .int (v4 + (1 : Int32))), (0, .ref oX), (1, .int v1), (2, .int v2), (3, .int v3)]) hx hb dX7_differ_81 hl (k := 4) rfl (by rfl) (by decide) rfl (fun ls hl => ?_)
        refine lv_goto (tgt := 44) hx hb dX7_differ_84 (by decide) ?_
        exact ih _ _ hm ls (lv_sub hl [1, 2, 3, 4, 0] rfl) K0 K1
      · have c14 := fun h9 => c14 ((lg_cmp_eq r9 r12).mpr h9)
        rw [if_neg c14] at hm
        exact K0 _ (Option.some.inj hm).symm ls (lv_sub hl [4] rfl)
set_option maxHeartbeats 4000000 in
set_option maxRecDepth 100000 in
theorem bX7_differ {n : Nat} {a1 : Int32} {a2 : Int32} {r : Int32} (hx : p.tables.exec = Jvm.exec) (hb : c.code = cX7_differ) (hml : c.maxLocals = 5) (hown : s.vm.findClass RX7 = some m.cls) (hts : ∀ w ∈ tw, w.before args s = true) (hK : va_K D vwCl [(cI, .int), (cJ, .long), (cG, .object "WornShapes$Program")] s) (hP : va_P D vwCl (wdX cJ cG cI oX oXp oXg oG0 oGa0 oG1 oGa1 oG2 oGa2 oQ oQw oI oR oRh oRm oB oBw oS oSs oF oFr oFs oFc oFw xpi gs0 ga0 gs1 ga1 gs2 ga2 qln qwy ijn rsz rhi rmi bsz bfi bla bar bwi srim sst fw fc fwh fbo fra fst fco fro) H) (hR : 5 ≤ R.frames ∧ 124 ≤ R.locals ∧ cells ≤ R.cells ∧ slots ≤ R.slots) (hm : mX7_differ n fc gs0 gs1 gs2 fra fst sst fwh srim ga0 ga1 ga2 a1 a2 = some r) (ls : Array Slot) (hl : lv_has ls 5 [(0, .ref oX), (1, .int a1), (2, .int a2)]) (K : ∀ (pc : Nat) (ls : Array Slot), decode cX7_differ pc = .ok (.ireturn, 1) → W p l e R s m args below meth c H locs cells slots Q (F0 m pc ls [.int r])) : W p l e R s m args below meth c H locs cells slots Q (F0 m 0 ls []) := by
  unfold mX7_differ at hm
  refine lv_iload_n hx hb dX7_differ_0 rfl (lv_at hl 1 rfl) ?_
  refine kX7_isProgram ⟨hx, hb, hml, hown, hts⟩ qw_318 hl.1 ⟨Nat.le_trans (by decide) hR.1, Nat.le_trans (by decide) hR.2.1, hR.2.2⟩ (Nat.le_of_ble_eq_true rfl) dX7_differ_1 ?_
  refine lv_if_eq (tgt := 14) hx hb dX7_differ_4 (by decide) (fun c2 => ?_) (fun c2 => ?_)
  · rw [if_pos c2] at hm
    refine lv_iconst (v := (-1 : Int32)) hx hb dX7_differ_14 (by decide) ?_
    have hm := Option.some.inj hm
    subst hm
    exact K 15 ls dX7_differ_15
  · rw [if_neg c2] at hm
    refine lv_iload_n hx hb dX7_differ_7 rfl (lv_at hl 2 rfl) ?_
    refine kX7_isProgram ⟨hx, hb, hml, hown, hts⟩ qw_318 hl.1 ⟨Nat.le_trans (by decide) hR.1, Nat.le_trans (by decide) hR.2.1, hR.2.2⟩ (Nat.le_of_ble_eq_true rfl) dX7_differ_8 ?_
    refine lv_if_ne (tgt := 16) hx hb dX7_differ_11 (by decide) (fun c4 => ?_) (fun c4 => ?_)
    · rw [if_neg c4] at hm
      refine lv_aload_n hx hb dX7_differ_16 rfl (lv_at hl 0 rfl) ?_
      refine va_get (D := D) (ci := 7) (v := .ref oF) (C := RX7) (T := TX7) (N := 8) hx hb hts tnX7 hown hK hP 0 rfl rfl 0 (by decide) (hts _ qw_302) (fun _ h9 => h9) rfl dX7_differ_17 ?_
      refine va_get (D := D) (ci := 1) (v := .int fc) (C := RX1) (T := TX1) (N := 8) hx hb hts tnX1 hown hK hP 19 rfl rfl 1 (by decide) (hts _ qw_319) (fun _ h9 => h9) rfl dX7_differ_20 ?_
      refine lv_bipush (v := (12 : Int32)) hx hb dX7_differ_23 (by decide) ?_
      refine lv_icmp_le (tgt := 31) hx hb dX7_differ_25 (by decide) (fun c5 => ?_) (fun c5 => ?_)
      · rw [if_pos c5] at hm
        refine lv_iconst (v := (1 : Int32)) hx hb dX7_differ_31 (by decide) ?_
        refine lv_aload_n hx hb dX7_differ_32 rfl (lv_at hl 0 rfl) ?_
        refine va_get (D := D) (ci := 7) (v := .ref oF) (C := RX7) (T := TX7) (N := 8) hx hb hts tnX7 hown hK hP 0 rfl rfl 0 (by decide) (hts _ qw_302) (fun _ h9 => h9) rfl dX7_differ_33 ?_
        refine va_get (D := D) (ci := 1) (v := .int fc) (C := RX1) (T := TX1) (N := 8) hx hb hts tnX1 hown hK hP 19 rfl rfl 1 (by decide) (hts _ qw_319) (fun _ h9 => h9) rfl dX7_differ_36 ?_
        refine lv_ishl hx hb dX7_differ_39 ?_
        refine lv_istore_n (lv' := [(3, .int ((1 : Int32) <<< (fc &&& 31))), (0, .ref oX), (1, .int a1), (2, .int a2)]) hx hb dX7_differ_40 rfl hl (by decide) rfl (fun ls hl => ?_)
        refine lv_iconst (v := (0 : Int32)) hx hb dX7_differ_41 (by decide) ?_
        refine lv_istore (lv' := [(4, .int (0 : Int32)), (3, .int ((1 : Int32) <<< (fc &&& 31))), (0, .ref oX), (1, .int a1), (2, .int a2)]) hx hb dX7_differ_42 hl (by decide) rfl (fun ls hl => ?_)
        obtain ⟨z17, h16, hm⟩ := jb_out hm
        refine wX7_differ_L44 hx hb hml hown hts hK hP hR n _ _ h16 ls (lv_sub hl [2, 3, 4, 1, 0] rfl) ?_ ?_
        · intro y15 e18 ls hl
          subst e18
          simp only [el2] at hm
          refine lv_iload hx hb dX7_differ_78 (lv_at hl 0 rfl) ?_
          have hm := Option.some.inj hm
          subst hm
          exact K 80 ls dX7_differ_80
        · intro e19 ls hl
          subst e19
          simp only [el2] at hm
          refine lv_bipush (v := (-9 : Int32)) hx hb dX7_differ_87 (by decide) ?_
          have hm := Option.some.inj hm
          subst hm
          exact K 89 ls dX7_differ_89
      · rw [if_neg c5] at hm
        refine lv_bipush (v := (-3 : Int32)) hx hb dX7_differ_28 (by decide) ?_
        have hm := Option.some.inj hm
        subst hm
        exact K 30 ls dX7_differ_30
    · rw [if_pos c4] at hm
      refine lv_iconst (v := (-1 : Int32)) hx hb dX7_differ_14 (by decide) ?_
      have hm := Option.some.inj hm
      subst hm
      exact K 15 ls dX7_differ_15
set_option maxHeartbeats 4000000 in
set_option maxRecDepth 100000 in
theorem tX7_differ (l : Launch) {D : va_G} {n : Nat} {a1 : Int32} {a2 : Int32} {r : Int32} (hm : mX7_differ n fc gs0 gs1 gs2 fra fst sst fwh srim ga0 ga1 ga2 a1 a2 = some r) : Met l yX7_differ (.code yX7_differ cX7_differ 5 (some .int) :: tw) ({ frames := 5, cells := 0, slots := 0, locals := 124 } : Room) (rdP D [.ref oX, .int a1, .int a2] (wdX cJ cG cI oX oXp oXg oG0 oGa0 oG1 oGa1 oG2 oGa2 oQ oQw oI oR oRh oRm oB oBw oS oSs oF oFr oFs oFc oFw xpi gs0 ga0 gs1 ga1 gs2 ga2 qln qwy ijn rsz rhi rmi bsz bfi bla bar bwi srim sst fw fc fwh fbo fra fst fco fro) [(cI, .int), (cJ, .long), (cG, .object "WornShapes$Program")]) (vp_Si (fun q => q = r)) 0 0 (fun _ => False) := by
  refine Met.ofW (cc := cX7_differ) (maxL := 5) (ret := (some .int)) (by decide) rfl ?_
  intro p e s m args below meth c s₁ B hml hv
  obtain ⟨rfl, hP, hK⟩ := hv
  have hx := B.exec
  have hb := B.bytes
  have hr := B.returns
  have hts : ∀ w ∈ tw, w.before _ s = true := fun w h => atoms_spec (ws := .code yX7_differ cX7_differ 5 (some .int) :: tw) B.pre w (List.mem_cons_of_mem _ h)
  have hown : s.vm.findClass RX7 = some m.cls := findClass_of_methodNamed B.named
  have hlocks := B.notSynchronized
  have hl := lv_entry ([.ref oX, .int a1, .int a2]) (n := 5) (Nat.le_of_ble_eq_true rfl)
  rw [lg_entry_eq]
  generalize (lg_sl ([.ref oX, .int a1, .int a2]) ++ List.replicate (5 - (lg_sl ([.ref oX, .int a1, .int a2])).length) Slot.unset).toArray = ls at hl ⊢
  refine bX7_differ hx hb hml hown hts hK hP ⟨Nat.le_of_ble_eq_true rfl, Nat.le_of_ble_eq_true rfl, Nat.zero_le _, Nat.zero_le _⟩ hm ls hl (fun pc ls hd => ?_)
  exact W.iret hx hb hr (fun t ht hW => ⟨r, rfl, rfl, ht⟩) (fun q h => by cases h) hd
set_option maxHeartbeats 4000000 in
set_option maxRecDepth 100000 in
theorem kX7_differ {own : String} {cc : ByteArray} {nL idx pc : Nat} {ls : Array Slot} {rest : List Value} {n : Nat} {a1 : Int32} {a2 : Int32} {r : Int32} (fx : CallFix p m c cc nL s args tw own) (hq : Cond.methodLink own idx yX7_differ ∈ tw) (hP : va_P D vwCl (wdX cJ cG cI oX oXp oXg oG0 oGa0 oG1 oGa1 oG2 oGa2 oQ oQw oI oR oRh oRm oB oBw oS oSs oF oFr oFs oFc oFw xpi gs0 ga0 gs1 ga1 gs2 ga2 qln qwy ijn rsz rhi rmi bsz bfi bla bar bwi srim sst fw fc fwh fbo fra fst fco fro) H) (hK : va_K D vwCl [(cI, .int), (cJ, .long), (cG, .object "WornShapes$Program")] s) (hm : mX7_differ n fc gs0 gs1 gs2 fra fst sst fwh srim ga0 ga1 ga2 a1 a2 = some r) (hsz : ls.size = nL) (hR : 6 ≤ R.frames ∧ 148 ≤ R.locals ∧ cells ≤ R.cells ∧ slots ≤ R.slots) (hst : (rest.map fun v => v.category).sum ≤ 8) (hd : decode cc pc = .ok (.invokevirtual idx, 3)) (kk : W p l e R s m args below meth c H locs cells slots Q (F0 m (pc + 3) ls (.int r :: rest))) : W p l e R s m args below meth c H locs cells slots Q (F0 m pc ls (.int a2 :: .int a1 :: .ref oX :: rest)) := by
  exact vp_callSi (va_Run.run (va_runV (As := [.int a1, .int a2]) (rest := rest) fx (tX7_differ l hm) (cwV 2 fx.2.2.2.2 (tw_V hq qw_322 qw_323 qw_288 qw_324) rfl rfl rfl (by decide +kernel) ⟨hR.1, hR.2.1⟩) ⟨rdP_bl, va_recv hK hP (ci := 7) (q0 := 0) rfl rfl, rdP_ok hP hK⟩ rfl rfl hsz rfl (lv_room hst) hd ⟨hR.2.2.1, hR.2.2.2⟩)) (fun r9 hr9 => by first | (rw [hr9]; exact kk) | (rw [hr9.1]; exact kk))
-- X7_piece
def mX7_piece (n : Nat) (fc : Int32) (xpi : Nat → Int64) (fra : Nat → Int32) (fst : Nat → Int64) (ijn : Int32) (a1 : Int32) (a2 : Int32) : Option Int32 :=
  (if (mX7_isPicture a1) = 0 then (some (-1 : Int32)) else (if (mX1_isCell fc a2) = 0 then (some (-1 : Int32)) else jb (mX7_bitAt xpi a1 a2) (fun (r5 : Int32) => (if r5 = 0 then (some (-3 : Int32)) else gd (ib a1 5) (jb (mX3_around n fc fra fst ijn a2 (xpi a1.toNatClampNeg)) (fun (r9 : Int64) => (some (mJ13_bitCount_95d88 r9))))))))
theorem dX7_piece_0 : decode cX7_piece 0 = .ok (.iload_n 1, 1) := by decide +kernel
theorem dX7_piece_1 : decode cX7_piece 1 = .ok (.invokestatic 81, 3) := by decide +kernel
theorem dX7_piece_4 : decode cX7_piece 4 = .ok (.ifCond .eq 14, 3) := by decide +kernel
theorem dX7_piece_7 : decode cX7_piece 7 = .ok (.aload_n 0, 1) := by decide +kernel
theorem dX7_piece_8 : decode cX7_piece 8 = .ok (.getfield 14, 3) := by decide +kernel
theorem dX7_piece_11 : decode cX7_piece 11 = .ok (.iload_n 2, 1) := by decide +kernel
theorem dX7_piece_12 : decode cX7_piece 12 = .ok (.invokevirtual 84, 3) := by decide +kernel
theorem dX7_piece_15 : decode cX7_piece 15 = .ok (.ifCond .ne 5, 3) := by decide +kernel
theorem dX7_piece_18 : decode cX7_piece 18 = .ok (.iconst (-1), 1) := by decide +kernel
theorem dX7_piece_19 : decode cX7_piece 19 = .ok (.ireturn, 1) := by decide +kernel
theorem dX7_piece_20 : decode cX7_piece 20 = .ok (.aload_n 0, 1) := by decide +kernel
theorem dX7_piece_21 : decode cX7_piece 21 = .ok (.iload_n 1, 1) := by decide +kernel
theorem dX7_piece_22 : decode cX7_piece 22 = .ok (.iload_n 2, 1) := by decide +kernel
theorem dX7_piece_23 : decode cX7_piece 23 = .ok (.invokevirtual 87, 3) := by decide +kernel
theorem dX7_piece_26 : decode cX7_piece 26 = .ok (.ifCond .ne 6, 3) := by decide +kernel
theorem dX7_piece_29 : decode cX7_piece 29 = .ok (.bipush (-3), 2) := by decide +kernel
theorem dX7_piece_31 : decode cX7_piece 31 = .ok (.ireturn, 1) := by decide +kernel
theorem dX7_piece_32 : decode cX7_piece 32 = .ok (.aload_n 0, 1) := by decide +kernel
theorem dX7_piece_33 : decode cX7_piece 33 = .ok (.getfield 50, 3) := by decide +kernel
theorem dX7_piece_36 : decode cX7_piece 36 = .ok (.iload_n 2, 1) := by decide +kernel
theorem dX7_piece_37 : decode cX7_piece 37 = .ok (.aload_n 0, 1) := by decide +kernel
theorem dX7_piece_38 : decode cX7_piece 38 = .ok (.getfield 18, 3) := by decide +kernel
theorem dX7_piece_41 : decode cX7_piece 41 = .ok (.iload_n 1, 1) := by decide +kernel
theorem dX7_piece_42 : decode cX7_piece 42 = .ok (.laload, 1) := by decide +kernel
theorem dX7_piece_43 : decode cX7_piece 43 = .ok (.invokevirtual 168, 3) := by decide +kernel
theorem dX7_piece_46 : decode cX7_piece 46 = .ok (.invokestatic 99, 3) := by decide +kernel
theorem dX7_piece_49 : decode cX7_piece 49 = .ok (.ireturn, 1) := by decide +kernel
set_option maxHeartbeats 4000000 in
set_option maxRecDepth 100000 in
theorem bX7_piece {n : Nat} {a1 : Int32} {a2 : Int32} {r : Int32} (hx : p.tables.exec = Jvm.exec) (hb : c.code = cX7_piece) (hml : c.maxLocals = 3) (hown : s.vm.findClass RX7 = some m.cls) (hts : ∀ w ∈ tw, w.before args s = true) (hK : va_K D vwCl [(cI, .int), (cJ, .long), (cG, .object "WornShapes$Program")] s) (hP : va_P D vwCl (wdX cJ cG cI oX oXp oXg oG0 oGa0 oG1 oGa1 oG2 oGa2 oQ oQw oI oR oRh oRm oB oBw oS oSs oF oFr oFs oFc oFw xpi gs0 ga0 gs1 ga1 gs2 ga2 qln qwy ijn rsz rhi rmi bsz bfi bla bar bwi srim sst fw fc fwh fbo fra fst fco fro) H) (hR : 4 ≤ R.frames ∧ 106 ≤ R.locals ∧ cells ≤ R.cells ∧ slots ≤ R.slots) (hm : mX7_piece n fc xpi fra fst ijn a1 a2 = some r) (ls : Array Slot) (hl : lv_has ls 3 [(0, .ref oX), (1, .int a1), (2, .int a2)]) (K : ∀ (pc : Nat) (ls : Array Slot), decode cX7_piece pc = .ok (.ireturn, 1) → W p l e R s m args below meth c H locs cells slots Q (F0 m pc ls [.int r])) : W p l e R s m args below meth c H locs cells slots Q (F0 m 0 ls []) := by
  unfold mX7_piece at hm
  refine lv_iload_n hx hb dX7_piece_0 rfl (lv_at hl 1 rfl) ?_
  refine kX7_isPicture ⟨hx, hb, hml, hown, hts⟩ qw_301 hl.1 ⟨Nat.le_trans (by decide) hR.1, Nat.le_trans (by decide) hR.2.1, hR.2.2⟩ (Nat.le_of_ble_eq_true rfl) dX7_piece_1 ?_
  refine lv_if_eq (tgt := 18) hx hb dX7_piece_4 (by decide) (fun c2 => ?_) (fun c2 => ?_)
  · rw [if_pos c2] at hm
    refine lv_iconst (v := (-1 : Int32)) hx hb dX7_piece_18 (by decide) ?_
    have hm := Option.some.inj hm
    subst hm
    exact K 19 ls dX7_piece_19
  · rw [if_neg c2] at hm
    refine lv_aload_n hx hb dX7_piece_7 rfl (lv_at hl 0 rfl) ?_
    refine va_get (D := D) (ci := 7) (v := .ref oF) (C := RX7) (T := TX7) (N := 8) hx hb hts tnX7 hown hK hP 0 rfl rfl 0 (by decide) (hts _ qw_302) (fun _ h9 => h9) rfl dX7_piece_8 ?_
    refine lv_iload_n hx hb dX7_piece_11 rfl (lv_at hl 2 rfl) ?_
    refine kX1_isCell ⟨hx, hb, hml, hown, hts⟩ qw_303 (hP.sub (ws' := (wdF cI cJ oF oFr oFs oFc oFw fw fc fwh fbo fra fst fco fro)) [19, 20, 21, 22, 23] rfl) (hK.sub (tys' := [(cI, .int), (cJ, .long)]) [0, 1] rfl) hl.1 ⟨Nat.le_trans (by decide) hR.1, Nat.le_trans (by decide) hR.2.1, hR.2.2⟩ (Nat.le_of_ble_eq_true rfl) dX7_piece_12 ?_
    refine lv_if_ne (tgt := 20) hx hb dX7_piece_15 (by decide) (fun c4 => ?_) (fun c4 => ?_)
    · rw [if_neg c4] at hm
      refine lv_aload_n hx hb dX7_piece_20 rfl (lv_at hl 0 rfl) ?_
      refine lv_iload_n hx hb dX7_piece_21 rfl (lv_at hl 1 rfl) ?_
      refine lv_iload_n hx hb dX7_piece_22 rfl (lv_at hl 2 rfl) ?_
      obtain ⟨r5, h6, hm⟩ := jb_out hm
      refine kX7_bitAt ⟨hx, hb, hml, hown, hts⟩ qw_304 hP hK h6 hl.1 ⟨Nat.le_trans (by decide) hR.1, Nat.le_trans (by decide) hR.2.1, hR.2.2⟩ (Nat.le_of_ble_eq_true rfl) dX7_piece_23 ?_
      refine lv_if_ne (tgt := 32) hx hb dX7_piece_26 (by decide) (fun c7 => ?_) (fun c7 => ?_)
      · rw [if_neg c7] at hm
        refine lv_aload_n hx hb dX7_piece_32 rfl (lv_at hl 0 rfl) ?_
        refine va_get (D := D) (ci := 7) (v := .ref oI) (C := RX7) (T := TX7) (N := 8) hx hb hts tnX7 hown hK hP 0 rfl rfl 5 (by decide) (hts _ qw_325) (fun _ h9 => h9) rfl dX7_piece_33 ?_
        refine lv_iload_n hx hb dX7_piece_36 rfl (lv_at hl 2 rfl) ?_
        refine lv_aload_n hx hb dX7_piece_37 rfl (lv_at hl 0 rfl) ?_
        refine va_get (D := D) (ci := 7) (v := .ref oXp) (C := RX7) (T := TX7) (N := 8) hx hb hts tnX7 hown hK hP 0 rfl rfl 1 (by decide) (hts _ qw_297) (fun _ h9 => h9) rfl dX7_piece_38 ?_
        refine lv_iload_n hx hb dX7_piece_41 rfl (lv_at hl 1 rfl) ?_
        obtain ⟨g8, hm⟩ := gd_out hm
        refine va_lald hx hb hK hP 1 1 rfl rfl g8 dX7_piece_42 ?_
        obtain ⟨r9, h10, hm⟩ := jb_out hm
        refine kX3_around ⟨hx, hb, hml, hown, hts⟩ qw_326 (hP.sub (ws' := (wdI cI cJ oI oF oFr oFs oFc oFw ijn fw fc fwh fbo fra fst fco fro)) [11, 19, 20, 21, 22, 23] rfl) (hK.sub (tys' := [(cI, .int), (cJ, .long)]) [0, 1] rfl) h10 hl.1 ⟨Nat.le_trans (by decide) hR.1, Nat.le_trans (by decide) hR.2.1, hR.2.2⟩ (Nat.le_of_ble_eq_true rfl) dX7_piece_43 ?_
        refine kJ13_bitCount_95d88 ⟨hx, hb, hml, hown, hts⟩ qw_314 hl.1 ⟨Nat.le_trans (by decide) hR.1, Nat.le_trans (by decide) hR.2.1, hR.2.2⟩ (Nat.le_of_ble_eq_true rfl) dX7_piece_46 ?_
        have hm := Option.some.inj hm
        subst hm
        exact K 49 ls dX7_piece_49
      · rw [if_pos c7] at hm
        refine lv_bipush (v := (-3 : Int32)) hx hb dX7_piece_29 (by decide) ?_
        have hm := Option.some.inj hm
        subst hm
        exact K 31 ls dX7_piece_31
    · rw [if_pos c4] at hm
      refine lv_iconst (v := (-1 : Int32)) hx hb dX7_piece_18 (by decide) ?_
      have hm := Option.some.inj hm
      subst hm
      exact K 19 ls dX7_piece_19
set_option maxHeartbeats 4000000 in
set_option maxRecDepth 100000 in
theorem tX7_piece (l : Launch) {D : va_G} {n : Nat} {a1 : Int32} {a2 : Int32} {r : Int32} (hm : mX7_piece n fc xpi fra fst ijn a1 a2 = some r) : Met l yX7_piece (.code yX7_piece cX7_piece 3 (some .int) :: tw) ({ frames := 4, cells := 0, slots := 0, locals := 106 } : Room) (rdP D [.ref oX, .int a1, .int a2] (wdX cJ cG cI oX oXp oXg oG0 oGa0 oG1 oGa1 oG2 oGa2 oQ oQw oI oR oRh oRm oB oBw oS oSs oF oFr oFs oFc oFw xpi gs0 ga0 gs1 ga1 gs2 ga2 qln qwy ijn rsz rhi rmi bsz bfi bla bar bwi srim sst fw fc fwh fbo fra fst fco fro) [(cI, .int), (cJ, .long), (cG, .object "WornShapes$Program")]) (vp_Si (fun q => q = r)) 0 0 (fun _ => False) := by
  refine Met.ofW (cc := cX7_piece) (maxL := 3) (ret := (some .int)) (by decide) rfl ?_
  intro p e s m args below meth c s₁ B hml hv
  obtain ⟨rfl, hP, hK⟩ := hv
  have hx := B.exec
  have hb := B.bytes
  have hr := B.returns
  have hts : ∀ w ∈ tw, w.before _ s = true := fun w h => atoms_spec (ws := .code yX7_piece cX7_piece 3 (some .int) :: tw) B.pre w (List.mem_cons_of_mem _ h)
  have hown : s.vm.findClass RX7 = some m.cls := findClass_of_methodNamed B.named
  have hlocks := B.notSynchronized
  have hl := lv_entry ([.ref oX, .int a1, .int a2]) (n := 3) (Nat.le_of_ble_eq_true rfl)
  rw [lg_entry_eq]
  generalize (lg_sl ([.ref oX, .int a1, .int a2]) ++ List.replicate (3 - (lg_sl ([.ref oX, .int a1, .int a2])).length) Slot.unset).toArray = ls at hl ⊢
  refine bX7_piece hx hb hml hown hts hK hP ⟨Nat.le_of_ble_eq_true rfl, Nat.le_of_ble_eq_true rfl, Nat.zero_le _, Nat.zero_le _⟩ hm ls hl (fun pc ls hd => ?_)
  exact W.iret hx hb hr (fun t ht hW => ⟨r, rfl, rfl, ht⟩) (fun q h => by cases h) hd
set_option maxHeartbeats 4000000 in
set_option maxRecDepth 100000 in
theorem kX7_piece {own : String} {cc : ByteArray} {nL idx pc : Nat} {ls : Array Slot} {rest : List Value} {n : Nat} {a1 : Int32} {a2 : Int32} {r : Int32} (fx : CallFix p m c cc nL s args tw own) (hq : Cond.methodLink own idx yX7_piece ∈ tw) (hP : va_P D vwCl (wdX cJ cG cI oX oXp oXg oG0 oGa0 oG1 oGa1 oG2 oGa2 oQ oQw oI oR oRh oRm oB oBw oS oSs oF oFr oFs oFc oFw xpi gs0 ga0 gs1 ga1 gs2 ga2 qln qwy ijn rsz rhi rmi bsz bfi bla bar bwi srim sst fw fc fwh fbo fra fst fco fro) H) (hK : va_K D vwCl [(cI, .int), (cJ, .long), (cG, .object "WornShapes$Program")] s) (hm : mX7_piece n fc xpi fra fst ijn a1 a2 = some r) (hsz : ls.size = nL) (hR : 5 ≤ R.frames ∧ 128 ≤ R.locals ∧ cells ≤ R.cells ∧ slots ≤ R.slots) (hst : (rest.map fun v => v.category).sum ≤ 8) (hd : decode cc pc = .ok (.invokevirtual idx, 3)) (kk : W p l e R s m args below meth c H locs cells slots Q (F0 m (pc + 3) ls (.int r :: rest))) : W p l e R s m args below meth c H locs cells slots Q (F0 m pc ls (.int a2 :: .int a1 :: .ref oX :: rest)) := by
  exact vp_callSi (va_Run.run (va_runV (As := [.int a1, .int a2]) (rest := rest) fx (tX7_piece l hm) (cwV 2 fx.2.2.2.2 (tw_V hq qw_327 qw_328 qw_288 qw_329) rfl rfl rfl (by decide +kernel) ⟨hR.1, hR.2.1⟩) ⟨rdP_bl, va_recv hK hP (ci := 7) (q0 := 0) rfl rfl, rdP_ok hP hK⟩ rfl rfl hsz rfl (lv_room hst) hd ⟨hR.2.2.1, hR.2.2.2⟩)) (fun r9 hr9 => by first | (rw [hr9]; exact kk) | (rw [hr9.1]; exact kk))
-- X7_hits
def mX7_hits (n : Nat) (rsz : Int32) (rhi : Nat → Int32) (rmi : Nat → Int32) (fra : Nat → Int32) (fst : Nat → Int64) (sst : Nat → Int32) (xpi : Nat → Int64) (a1 : Int32) (a2 : Int32) : Option Int32 :=
  (if (mX7_isPicture a1) = 0 then (some (-1 : Int32)) else (if a2 < 0 then (some (-1 : Int32)) else (if a2 < rsz then gd (ib a1 5) (jb (mX2_hitIn n rhi rmi fra fst sst (xpi a1.toNatClampNeg) a2) (fun (r6 : Int64) => (some (mJ13_bitCount_95d88 r6)))) else (some (-1 : Int32)))))
theorem dX7_hits_0 : decode cX7_hits 0 = .ok (.iload_n 1, 1) := by decide +kernel
theorem dX7_hits_1 : decode cX7_hits 1 = .ok (.invokestatic 81, 3) := by decide +kernel
theorem dX7_hits_4 : decode cX7_hits 4 = .ok (.ifCond .eq 18, 3) := by decide +kernel
theorem dX7_hits_7 : decode cX7_hits 7 = .ok (.iload_n 2, 1) := by decide +kernel
theorem dX7_hits_8 : decode cX7_hits 8 = .ok (.ifCond .lt 14, 3) := by decide +kernel
theorem dX7_hits_11 : decode cX7_hits 11 = .ok (.iload_n 2, 1) := by decide +kernel
theorem dX7_hits_12 : decode cX7_hits 12 = .ok (.aload_n 0, 1) := by decide +kernel
theorem dX7_hits_13 : decode cX7_hits 13 = .ok (.getfield 59, 3) := by decide +kernel
theorem dX7_hits_16 : decode cX7_hits 16 = .ok (.getfield 178, 3) := by decide +kernel
theorem dX7_hits_19 : decode cX7_hits 19 = .ok (.if_icmp .lt 5, 3) := by decide +kernel
theorem dX7_hits_22 : decode cX7_hits 22 = .ok (.iconst (-1), 1) := by decide +kernel
theorem dX7_hits_23 : decode cX7_hits 23 = .ok (.ireturn, 1) := by decide +kernel
theorem dX7_hits_24 : decode cX7_hits 24 = .ok (.aload_n 0, 1) := by decide +kernel
theorem dX7_hits_25 : decode cX7_hits 25 = .ok (.getfield 59, 3) := by decide +kernel
theorem dX7_hits_28 : decode cX7_hits 28 = .ok (.aload_n 0, 1) := by decide +kernel
theorem dX7_hits_29 : decode cX7_hits 29 = .ok (.getfield 18, 3) := by decide +kernel
theorem dX7_hits_32 : decode cX7_hits 32 = .ok (.iload_n 1, 1) := by decide +kernel
theorem dX7_hits_33 : decode cX7_hits 33 = .ok (.laload, 1) := by decide +kernel
theorem dX7_hits_34 : decode cX7_hits 34 = .ok (.iload_n 2, 1) := by decide +kernel
theorem dX7_hits_35 : decode cX7_hits 35 = .ok (.invokevirtual 179, 3) := by decide +kernel
theorem dX7_hits_38 : decode cX7_hits 38 = .ok (.invokestatic 99, 3) := by decide +kernel
theorem dX7_hits_41 : decode cX7_hits 41 = .ok (.ireturn, 1) := by decide +kernel
set_option maxHeartbeats 4000000 in
set_option maxRecDepth 100000 in
theorem bX7_hits {n : Nat} {a1 : Int32} {a2 : Int32} {r : Int32} (hx : p.tables.exec = Jvm.exec) (hb : c.code = cX7_hits) (hml : c.maxLocals = 3) (hown : s.vm.findClass RX7 = some m.cls) (hts : ∀ w ∈ tw, w.before args s = true) (hK : va_K D vwCl [(cI, .int), (cJ, .long), (cG, .object "WornShapes$Program")] s) (hP : va_P D vwCl (wdX cJ cG cI oX oXp oXg oG0 oGa0 oG1 oGa1 oG2 oGa2 oQ oQw oI oR oRh oRm oB oBw oS oSs oF oFr oFs oFc oFw xpi gs0 ga0 gs1 ga1 gs2 ga2 qln qwy ijn rsz rhi rmi bsz bfi bla bar bwi srim sst fw fc fwh fbo fra fst fco fro) H) (hR : 2 ≤ R.frames ∧ 54 ≤ R.locals ∧ cells ≤ R.cells ∧ slots ≤ R.slots) (hm : mX7_hits n rsz rhi rmi fra fst sst xpi a1 a2 = some r) (ls : Array Slot) (hl : lv_has ls 3 [(0, .ref oX), (1, .int a1), (2, .int a2)]) (K : ∀ (pc : Nat) (ls : Array Slot), decode cX7_hits pc = .ok (.ireturn, 1) → W p l e R s m args below meth c H locs cells slots Q (F0 m pc ls [.int r])) : W p l e R s m args below meth c H locs cells slots Q (F0 m 0 ls []) := by
  unfold mX7_hits at hm
  refine lv_iload_n hx hb dX7_hits_0 rfl (lv_at hl 1 rfl) ?_
  refine kX7_isPicture ⟨hx, hb, hml, hown, hts⟩ qw_301 hl.1 ⟨Nat.le_trans (by decide) hR.1, Nat.le_trans (by decide) hR.2.1, hR.2.2⟩ (Nat.le_of_ble_eq_true rfl) dX7_hits_1 ?_
  refine lv_if_eq (tgt := 22) hx hb dX7_hits_4 (by decide) (fun c2 => ?_) (fun c2 => ?_)
  · rw [if_pos c2] at hm
    refine lv_iconst (v := (-1 : Int32)) hx hb dX7_hits_22 (by decide) ?_
    have hm := Option.some.inj hm
    subst hm
    exact K 23 ls dX7_hits_23
  · rw [if_neg c2] at hm
    refine lv_iload_n hx hb dX7_hits_7 rfl (lv_at hl 2 rfl) ?_
    refine lv_if_lt (tgt := 22) hx hb dX7_hits_8 (by decide) (fun c3 => ?_) (fun c3 => ?_)
    · rw [if_pos c3] at hm
      refine lv_iconst (v := (-1 : Int32)) hx hb dX7_hits_22 (by decide) ?_
      have hm := Option.some.inj hm
      subst hm
      exact K 23 ls dX7_hits_23
    · rw [if_neg c3] at hm
      refine lv_iload_n hx hb dX7_hits_11 rfl (lv_at hl 2 rfl) ?_
      refine lv_aload_n hx hb dX7_hits_12 rfl (lv_at hl 0 rfl) ?_
      refine va_get (D := D) (ci := 7) (v := .ref oR) (C := RX7) (T := TX7) (N := 8) hx hb hts tnX7 hown hK hP 0 rfl rfl 6 (by decide) (hts _ qw_330) (fun _ h9 => h9) rfl dX7_hits_13 ?_
      refine va_get (D := D) (ci := 2) (v := .int rsz) (C := RX2) (T := TX2) (N := 5) hx hb hts tnX2 hown hK hP 12 rfl rfl 4 (by decide) (hts _ qw_331) (fun _ h9 => h9) rfl dX7_hits_16 ?_
      refine lv_icmp_lt (tgt := 24) hx hb dX7_hits_19 (by decide) (fun c4 => ?_) (fun c4 => ?_)
      · rw [if_pos c4] at hm
        refine lv_aload_n hx hb dX7_hits_24 rfl (lv_at hl 0 rfl) ?_
        refine va_get (D := D) (ci := 7) (v := .ref oR) (C := RX7) (T := TX7) (N := 8) hx hb hts tnX7 hown hK hP 0 rfl rfl 6 (by decide) (hts _ qw_330) (fun _ h9 => h9) rfl dX7_hits_25 ?_
        refine lv_aload_n hx hb dX7_hits_28 rfl (lv_at hl 0 rfl) ?_
        refine va_get (D := D) (ci := 7) (v := .ref oXp) (C := RX7) (T := TX7) (N := 8) hx hb hts tnX7 hown hK hP 0 rfl rfl 1 (by decide) (hts _ qw_297) (fun _ h9 => h9) rfl dX7_hits_29 ?_
        refine lv_iload_n hx hb dX7_hits_32 rfl (lv_at hl 1 rfl) ?_
        obtain ⟨g5, hm⟩ := gd_out hm
        refine va_lald hx hb hK hP 1 1 rfl rfl g5 dX7_hits_33 ?_
        refine lv_iload_n hx hb dX7_hits_34 rfl (lv_at hl 2 rfl) ?_
        obtain ⟨r6, h7, hm⟩ := jb_out hm
        refine kX2_hitIn ⟨hx, hb, hml, hown, hts⟩ qw_332 (hP.sub (ws' := (wdR cI cJ oR oRh oRm oS oSs oF oFr oFs oFc oFw rsz rhi rmi srim sst fw fc fwh fbo fra fst fco fro)) [12, 13, 14, 17, 18, 19, 20, 21, 22, 23] rfl) (hK.sub (tys' := [(cI, .int), (cJ, .long)]) [0, 1] rfl) h7 hl.1 ⟨Nat.le_trans (by decide) hR.1, Nat.le_trans (by decide) hR.2.1, hR.2.2⟩ (Nat.le_of_ble_eq_true rfl) dX7_hits_35 ?_
        refine kJ13_bitCount_95d88 ⟨hx, hb, hml, hown, hts⟩ qw_314 hl.1 ⟨Nat.le_trans (by decide) hR.1, Nat.le_trans (by decide) hR.2.1, hR.2.2⟩ (Nat.le_of_ble_eq_true rfl) dX7_hits_38 ?_
        have hm := Option.some.inj hm
        subst hm
        exact K 41 ls dX7_hits_41
      · rw [if_neg c4] at hm
        refine lv_iconst (v := (-1 : Int32)) hx hb dX7_hits_22 (by decide) ?_
        have hm := Option.some.inj hm
        subst hm
        exact K 23 ls dX7_hits_23
set_option maxHeartbeats 4000000 in
set_option maxRecDepth 100000 in
theorem tX7_hits (l : Launch) {D : va_G} {n : Nat} {a1 : Int32} {a2 : Int32} {r : Int32} (hm : mX7_hits n rsz rhi rmi fra fst sst xpi a1 a2 = some r) : Met l yX7_hits (.code yX7_hits cX7_hits 3 (some .int) :: tw) ({ frames := 2, cells := 0, slots := 0, locals := 54 } : Room) (rdP D [.ref oX, .int a1, .int a2] (wdX cJ cG cI oX oXp oXg oG0 oGa0 oG1 oGa1 oG2 oGa2 oQ oQw oI oR oRh oRm oB oBw oS oSs oF oFr oFs oFc oFw xpi gs0 ga0 gs1 ga1 gs2 ga2 qln qwy ijn rsz rhi rmi bsz bfi bla bar bwi srim sst fw fc fwh fbo fra fst fco fro) [(cI, .int), (cJ, .long), (cG, .object "WornShapes$Program")]) (vp_Si (fun q => q = r)) 0 0 (fun _ => False) := by
  refine Met.ofW (cc := cX7_hits) (maxL := 3) (ret := (some .int)) (by decide) rfl ?_
  intro p e s m args below meth c s₁ B hml hv
  obtain ⟨rfl, hP, hK⟩ := hv
  have hx := B.exec
  have hb := B.bytes
  have hr := B.returns
  have hts : ∀ w ∈ tw, w.before _ s = true := fun w h => atoms_spec (ws := .code yX7_hits cX7_hits 3 (some .int) :: tw) B.pre w (List.mem_cons_of_mem _ h)
  have hown : s.vm.findClass RX7 = some m.cls := findClass_of_methodNamed B.named
  have hlocks := B.notSynchronized
  have hl := lv_entry ([.ref oX, .int a1, .int a2]) (n := 3) (Nat.le_of_ble_eq_true rfl)
  rw [lg_entry_eq]
  generalize (lg_sl ([.ref oX, .int a1, .int a2]) ++ List.replicate (3 - (lg_sl ([.ref oX, .int a1, .int a2])).length) Slot.unset).toArray = ls at hl ⊢
  refine bX7_hits hx hb hml hown hts hK hP ⟨Nat.le_of_ble_eq_true rfl, Nat.le_of_ble_eq_true rfl, Nat.zero_le _, Nat.zero_le _⟩ hm ls hl (fun pc ls hd => ?_)
  exact W.iret hx hb hr (fun t ht hW => ⟨r, rfl, rfl, ht⟩) (fun q h => by cases h) hd
set_option maxHeartbeats 4000000 in
set_option maxRecDepth 100000 in
theorem kX7_hits {own : String} {cc : ByteArray} {nL idx pc : Nat} {ls : Array Slot} {rest : List Value} {n : Nat} {a1 : Int32} {a2 : Int32} {r : Int32} (fx : CallFix p m c cc nL s args tw own) (hq : Cond.methodLink own idx yX7_hits ∈ tw) (hP : va_P D vwCl (wdX cJ cG cI oX oXp oXg oG0 oGa0 oG1 oGa1 oG2 oGa2 oQ oQw oI oR oRh oRm oB oBw oS oSs oF oFr oFs oFc oFw xpi gs0 ga0 gs1 ga1 gs2 ga2 qln qwy ijn rsz rhi rmi bsz bfi bla bar bwi srim sst fw fc fwh fbo fra fst fco fro) H) (hK : va_K D vwCl [(cI, .int), (cJ, .long), (cG, .object "WornShapes$Program")] s) (hm : mX7_hits n rsz rhi rmi fra fst sst xpi a1 a2 = some r) (hsz : ls.size = nL) (hR : 3 ≤ R.frames ∧ 76 ≤ R.locals ∧ cells ≤ R.cells ∧ slots ≤ R.slots) (hst : (rest.map fun v => v.category).sum ≤ 8) (hd : decode cc pc = .ok (.invokevirtual idx, 3)) (kk : W p l e R s m args below meth c H locs cells slots Q (F0 m (pc + 3) ls (.int r :: rest))) : W p l e R s m args below meth c H locs cells slots Q (F0 m pc ls (.int a2 :: .int a1 :: .ref oX :: rest)) := by
  exact vp_callSi (va_Run.run (va_runV (As := [.int a1, .int a2]) (rest := rest) fx (tX7_hits l hm) (cwV 2 fx.2.2.2.2 (tw_V hq qw_333 qw_334 qw_288 qw_335) rfl rfl rfl (by decide +kernel) ⟨hR.1, hR.2.1⟩) ⟨rdP_bl, va_recv hK hP (ci := 7) (q0 := 0) rfl rfl, rdP_ok hP hK⟩ rfl rfl hsz rfl (lv_room hst) hd ⟨hR.2.2.1, hR.2.2.2⟩)) (fun r9 hr9 => by first | (rw [hr9]; exact kk) | (rw [hr9.1]; exact kk))
-- X7_deep
def mX7_deep_L50 (n : Nat) (fra : Nat → Int32) (fst : Nat → Int64) (fwh : Int64) (sst : Nat → Int32) (srim : Int32) (v3 : Int32) (v2 : Int32) : Nat → (Int64) → (Int32) → Option (((Int32)) ⊕ (Unit))
  | 0, _, _ => none
  | k + 1, v4, v6 => (if (60 : Int32) < v6 then some (.inr (())) else jb (mX6_wornBy n fra fst fwh sst srim v4 v3) (fun (r13 : Int64) => (if ((jlushr r13 v2) &&& (1 : Int64)) = (0 : Int64) then some (.inl (v6)) else mX7_deep_L50 n fra fst fwh sst srim v3 v2 k r13 (v6 + (1 : Int32)))))
def mX7_deep (n : Nat) (fc : Int32) (xpi : Nat → Int64) (fra : Nat → Int32) (fst : Nat → Int64) (fwh : Int64) (sst : Nat → Int32) (srim : Int32) (a1 : Int32) (a2 : Int32) (a3 : Int32) : Option Int32 :=
  (if (mX7_isPicture a1) = 0 then (some (-1 : Int32)) else (if (mX1_isCell fc a2) = 0 then (some (-1 : Int32)) else (if (mX6_isStamp a3) = 0 then (some (-1 : Int32)) else jb (mX7_bitAt xpi a1 a2) (fun (r7 : Int32) => (if r7 = 0 then (some (-3 : Int32)) else gd (ib a1 5) (jb (mX7_deep_L50 n fra fst fwh sst srim a3 a2 n (xpi a1.toNatClampNeg) (1 : Int32)) (fun q => el2 q (fun (y16 : Int32) => (some y16)) (fun (_ : Unit) => (some (-9 : Int32))))))))))
theorem dX7_deep_0 : decode cX7_deep 0 = .ok (.iload_n 1, 1) := by decide +kernel
theorem dX7_deep_1 : decode cX7_deep 1 = .ok (.invokestatic 81, 3) := by decide +kernel
theorem dX7_deep_4 : decode cX7_deep 4 = .ok (.ifCond .eq 21, 3) := by decide +kernel
theorem dX7_deep_7 : decode cX7_deep 7 = .ok (.aload_n 0, 1) := by decide +kernel
theorem dX7_deep_8 : decode cX7_deep 8 = .ok (.getfield 14, 3) := by decide +kernel
theorem dX7_deep_11 : decode cX7_deep 11 = .ok (.iload_n 2, 1) := by decide +kernel
theorem dX7_deep_12 : decode cX7_deep 12 = .ok (.invokevirtual 84, 3) := by decide +kernel
theorem dX7_deep_15 : decode cX7_deep 15 = .ok (.ifCond .eq 10, 3) := by decide +kernel
theorem dX7_deep_18 : decode cX7_deep 18 = .ok (.iload_n 3, 1) := by decide +kernel
theorem dX7_deep_19 : decode cX7_deep 19 = .ok (.invokestatic 107, 3) := by decide +kernel
theorem dX7_deep_22 : decode cX7_deep 22 = .ok (.ifCond .ne 5, 3) := by decide +kernel
theorem dX7_deep_25 : decode cX7_deep 25 = .ok (.iconst (-1), 1) := by decide +kernel
theorem dX7_deep_26 : decode cX7_deep 26 = .ok (.ireturn, 1) := by decide +kernel
theorem dX7_deep_27 : decode cX7_deep 27 = .ok (.aload_n 0, 1) := by decide +kernel
theorem dX7_deep_28 : decode cX7_deep 28 = .ok (.iload_n 1, 1) := by decide +kernel
theorem dX7_deep_29 : decode cX7_deep 29 = .ok (.iload_n 2, 1) := by decide +kernel
theorem dX7_deep_30 : decode cX7_deep 30 = .ok (.invokevirtual 87, 3) := by decide +kernel
theorem dX7_deep_33 : decode cX7_deep 33 = .ok (.ifCond .ne 6, 3) := by decide +kernel
theorem dX7_deep_36 : decode cX7_deep 36 = .ok (.bipush (-3), 2) := by decide +kernel
theorem dX7_deep_38 : decode cX7_deep 38 = .ok (.ireturn, 1) := by decide +kernel
theorem dX7_deep_39 : decode cX7_deep 39 = .ok (.aload_n 0, 1) := by decide +kernel
theorem dX7_deep_40 : decode cX7_deep 40 = .ok (.getfield 18, 3) := by decide +kernel
theorem dX7_deep_43 : decode cX7_deep 43 = .ok (.iload_n 1, 1) := by decide +kernel
theorem dX7_deep_44 : decode cX7_deep 44 = .ok (.laload, 1) := by decide +kernel
theorem dX7_deep_45 : decode cX7_deep 45 = .ok (.lstore 4, 2) := by decide +kernel
theorem dX7_deep_47 : decode cX7_deep 47 = .ok (.iconst 1, 1) := by decide +kernel
theorem dX7_deep_48 : decode cX7_deep 48 = .ok (.istore 6, 2) := by decide +kernel
theorem dX7_deep_50 : decode cX7_deep 50 = .ok (.iload 6, 2) := by decide +kernel
theorem dX7_deep_52 : decode cX7_deep 52 = .ok (.bipush 60, 2) := by decide +kernel
theorem dX7_deep_54 : decode cX7_deep 54 = .ok (.if_icmp .gt 35, 3) := by decide +kernel
theorem dX7_deep_57 : decode cX7_deep 57 = .ok (.aload_n 0, 1) := by decide +kernel
theorem dX7_deep_58 : decode cX7_deep 58 = .ok (.getfield 27, 3) := by decide +kernel
theorem dX7_deep_61 : decode cX7_deep 61 = .ok (.lload 4, 2) := by decide +kernel
theorem dX7_deep_63 : decode cX7_deep 63 = .ok (.iload_n 3, 1) := by decide +kernel
theorem dX7_deep_64 : decode cX7_deep 64 = .ok (.invokevirtual 185, 3) := by decide +kernel
theorem dX7_deep_67 : decode cX7_deep 67 = .ok (.lstore 4, 2) := by decide +kernel
theorem dX7_deep_69 : decode cX7_deep 69 = .ok (.lload 4, 2) := by decide +kernel
theorem dX7_deep_71 : decode cX7_deep 71 = .ok (.iload_n 2, 1) := by decide +kernel
theorem dX7_deep_72 : decode cX7_deep 72 = .ok (.lushr, 1) := by decide +kernel
theorem dX7_deep_73 : decode cX7_deep 73 = .ok (.lconst 1, 1) := by decide +kernel
theorem dX7_deep_74 : decode cX7_deep 74 = .ok (.land, 1) := by decide +kernel
theorem dX7_deep_75 : decode cX7_deep 75 = .ok (.lconst 0, 1) := by decide +kernel
theorem dX7_deep_76 : decode cX7_deep 76 = .ok (.lcmp, 1) := by decide +kernel
theorem dX7_deep_77 : decode cX7_deep 77 = .ok (.ifCond .ne 6, 3) := by decide +kernel
theorem dX7_deep_80 : decode cX7_deep 80 = .ok (.iload 6, 2) := by decide +kernel
theorem dX7_deep_82 : decode cX7_deep 82 = .ok (.ireturn, 1) := by decide +kernel
theorem dX7_deep_83 : decode cX7_deep 83 = .ok (.iinc 6 1, 3) := by decide +kernel
theorem dX7_deep_86 : decode cX7_deep 86 = .ok (.goto (-36), 3) := by decide +kernel
theorem dX7_deep_89 : decode cX7_deep 89 = .ok (.bipush (-9), 2) := by decide +kernel
theorem dX7_deep_91 : decode cX7_deep 91 = .ok (.ireturn, 1) := by decide +kernel
set_option maxHeartbeats 4000000 in
set_option maxRecDepth 100000 in
theorem wX7_deep_L50 {n : Nat} {v2 : Int32} {v3 : Int32} (hx : p.tables.exec = Jvm.exec) (hb : c.code = cX7_deep) (hml : c.maxLocals = 7) (hown : s.vm.findClass RX7 = some m.cls) (hts : ∀ w ∈ tw, w.before args s = true) (hK : va_K D vwCl [(cI, .int), (cJ, .long), (cG, .object "WornShapes$Program")] s) (hP : va_P D vwCl (wdX cJ cG cI oX oXp oXg oG0 oGa0 oG1 oGa1 oG2 oGa2 oQ oQw oI oR oRh oRm oB oBw oS oSs oF oFr oFs oFc oFw xpi gs0 ga0 gs1 ga1 gs2 ga2 qln qwy ijn rsz rhi rmi bsz bfi bla bar bwi srim sst fw fc fwh fbo fra fst fco fro) H) (hR : 3 ≤ R.frames ∧ 74 ≤ R.locals ∧ cells ≤ R.cells ∧ slots ≤ R.slots) : ∀ (k : Nat) (v4 : Int64) (v6 : Int32) (x : ((Int32)) ⊕ (Unit)), mX7_deep_L50 n fra fst fwh sst srim v3 v2 k v4 v6 = some x → ∀ ls : Array Slot, lv_has ls 7 [(0, .ref oX), (2, .int v2), (3, .int v3), (4, .long v4), (6, .int v6)] → (∀ (x6 : Int32), x = .inl (x6) → ∀ ls : Array Slot, lv_has ls 7 [(6, .int x6)] → W p l e R s m args below meth c H locs cells slots Q (F0 m 80 ls [])) → (x = .inr (()) → ∀ ls : Array Slot, lv_has ls 7 [] → W p l e R s m args below meth c H locs cells slots Q (F0 m 89 ls [])) → W p l e R s m args below meth c H locs cells slots Q (F0 m 50 ls []) := by
  intro k
  induction k with
  | zero => intro v4 v6 x hm; rw [mX7_deep_L50] at hm; cases hm
  | succ k ih =>
    intro v4 v6 x hm ls hl K0 K1
    rw [mX7_deep_L50] at hm
    refine lv_iload hx hb dX7_deep_50 (lv_at hl 4 rfl) ?_
    refine lv_bipush (v := (60 : Int32)) hx hb dX7_deep_52 (by decide) ?_
    refine lv_icmp_gt (tgt := 89) hx hb dX7_deep_54 (by decide) (fun c12 => ?_) (fun c12 => ?_)
    · rw [if_pos c12] at hm
      exact K1  (Option.some.inj hm).symm ls (lv_sub hl [] rfl)
    · rw [if_neg c12] at hm
      refine lv_aload_n hx hb dX7_deep_57 rfl (lv_at hl 0 rfl) ?_
      refine va_get (D := D) (ci := 7) (v := .ref oS) (C := RX7) (T := TX7) (N := 8) hx hb hts tnX7 hown hK hP 0 rfl rfl 2 (by decide) (hts _ qw_312) (fun _ h9 => h9) rfl dX7_deep_58 ?_
      refine lv_lload hx hb dX7_deep_61 (lv_at hl 3 rfl) ?_
      refine lv_iload_n hx hb dX7_deep_63 rfl (lv_at hl 2 rfl) ?_
      obtain ⟨r13, h14, hm⟩ := jb_out hm
      refine kX6_wornBy ⟨hx, hb, hml, hown, hts⟩ qw_337 (hP.sub (ws' := (wdS cI cJ oS oSs oF oFr oFs oFc oFw srim sst fw fc fwh fbo fra fst fco fro)) [17, 18, 19, 20, 21, 22, 23] rfl) (hK.sub (tys' := [(cI, .int), (cJ, .long)]) [0, 1] rfl) h14 hl.1 ⟨Nat.le_trans (by decide) hR.1, Nat.le_trans (by decide) hR.2.1, hR.2.2⟩ (Nat.le_of_ble_eq_true rfl) dX7_deep_64 ?_
      refine lv_lstore (lv' := [(4, .long r13), (0, .ref oX), (2, .int v2), (3, .int v3), (6, .int v6)]) hx hb dX7_deep_67 hl (by decide) rfl (fun ls hl => ?_)
      refine lv_lload hx hb dX7_deep_69 (lv_at hl 0 rfl) ?_
      refine lv_iload_n hx hb dX7_deep_71 rfl (lv_at hl 2 rfl) ?_
      refine lv_lushr (v := (jlushr r13 v2)) hx hb dX7_deep_72 rfl ?_
      refine lv_lconst (v := (1 : Int64)) hx hb dX7_deep_73 (by decide) ?_
      refine lv_land hx hb dX7_deep_74 ?_
      refine lv_lconst (v := (0 : Int64)) hx hb dX7_deep_75 (by decide) ?_
      refine W.lcmp hx hb dX7_deep_76 ?_
      refine lv_if_ne (tgt := 83) hx hb dX7_deep_77 (by decide) (fun c15 => ?_) (fun c15 => ?_)
      · have c15 := fun h9 => c15 ((lg_cmp_eq ((jlushr r13 v2) &&& (1 : Int64)) (0 : Int64)).mpr h9)
        rw [if_neg c15] at hm
        refine lv_iinc (v := (v6 + (1 : Int32))) (lv' := [(6, .int (v6 + (1 : Int32))), (4, .long r13), (0, .ref oX), (2, .int v2), (3, .int v3)]) hx hb dX7_deep_83 hl (k := 4) rfl (by rfl) (by decide) rfl (fun ls hl => ?_)
        refine lv_goto (tgt := 50) hx hb dX7_deep_86 (by decide) ?_
        exact ih _ _ _ hm ls (lv_sub hl [2, 3, 4, 1, 0] rfl) K0 K1
      · have c15 := (lg_cmp_eq ((jlushr r13 v2) &&& (1 : Int64)) (0 : Int64)).mp c15
        rw [if_pos c15] at hm
        exact K0 _ (Option.some.inj hm).symm ls (lv_sub hl [4] rfl)
set_option maxHeartbeats 4000000 in
set_option maxRecDepth 100000 in
theorem bX7_deep {n : Nat} {a1 : Int32} {a2 : Int32} {a3 : Int32} {r : Int32} (hx : p.tables.exec = Jvm.exec) (hb : c.code = cX7_deep) (hml : c.maxLocals = 7) (hown : s.vm.findClass RX7 = some m.cls) (hts : ∀ w ∈ tw, w.before args s = true) (hK : va_K D vwCl [(cI, .int), (cJ, .long), (cG, .object "WornShapes$Program")] s) (hP : va_P D vwCl (wdX cJ cG cI oX oXp oXg oG0 oGa0 oG1 oGa1 oG2 oGa2 oQ oQw oI oR oRh oRm oB oBw oS oSs oF oFr oFs oFc oFw xpi gs0 ga0 gs1 ga1 gs2 ga2 qln qwy ijn rsz rhi rmi bsz bfi bla bar bwi srim sst fw fc fwh fbo fra fst fco fro) H) (hR : 3 ≤ R.frames ∧ 74 ≤ R.locals ∧ cells ≤ R.cells ∧ slots ≤ R.slots) (hm : mX7_deep n fc xpi fra fst fwh sst srim a1 a2 a3 = some r) (ls : Array Slot) (hl : lv_has ls 7 [(0, .ref oX), (1, .int a1), (2, .int a2), (3, .int a3)]) (K : ∀ (pc : Nat) (ls : Array Slot), decode cX7_deep pc = .ok (.ireturn, 1) → W p l e R s m args below meth c H locs cells slots Q (F0 m pc ls [.int r])) : W p l e R s m args below meth c H locs cells slots Q (F0 m 0 ls []) := by
  unfold mX7_deep at hm
  refine lv_iload_n hx hb dX7_deep_0 rfl (lv_at hl 1 rfl) ?_
  refine kX7_isPicture ⟨hx, hb, hml, hown, hts⟩ qw_301 hl.1 ⟨Nat.le_trans (by decide) hR.1, Nat.le_trans (by decide) hR.2.1, hR.2.2⟩ (Nat.le_of_ble_eq_true rfl) dX7_deep_1 ?_
  refine lv_if_eq (tgt := 25) hx hb dX7_deep_4 (by decide) (fun c2 => ?_) (fun c2 => ?_)
  · rw [if_pos c2] at hm
    refine lv_iconst (v := (-1 : Int32)) hx hb dX7_deep_25 (by decide) ?_
    have hm := Option.some.inj hm
    subst hm
    exact K 26 ls dX7_deep_26
  · rw [if_neg c2] at hm
    refine lv_aload_n hx hb dX7_deep_7 rfl (lv_at hl 0 rfl) ?_
    refine va_get (D := D) (ci := 7) (v := .ref oF) (C := RX7) (T := TX7) (N := 8) hx hb hts tnX7 hown hK hP 0 rfl rfl 0 (by decide) (hts _ qw_302) (fun _ h9 => h9) rfl dX7_deep_8 ?_
    refine lv_iload_n hx hb dX7_deep_11 rfl (lv_at hl 2 rfl) ?_
    refine kX1_isCell ⟨hx, hb, hml, hown, hts⟩ qw_303 (hP.sub (ws' := (wdF cI cJ oF oFr oFs oFc oFw fw fc fwh fbo fra fst fco fro)) [19, 20, 21, 22, 23] rfl) (hK.sub (tys' := [(cI, .int), (cJ, .long)]) [0, 1] rfl) hl.1 ⟨Nat.le_trans (by decide) hR.1, Nat.le_trans (by decide) hR.2.1, hR.2.2⟩ (Nat.le_of_ble_eq_true rfl) dX7_deep_12 ?_
    refine lv_if_eq (tgt := 25) hx hb dX7_deep_15 (by decide) (fun c4 => ?_) (fun c4 => ?_)
    · rw [if_pos c4] at hm
      refine lv_iconst (v := (-1 : Int32)) hx hb dX7_deep_25 (by decide) ?_
      have hm := Option.some.inj hm
      subst hm
      exact K 26 ls dX7_deep_26
    · rw [if_neg c4] at hm
      refine lv_iload_n hx hb dX7_deep_18 rfl (lv_at hl 3 rfl) ?_
      refine kX6_isStamp ⟨hx, hb, hml, hown, hts⟩ qw_336 hl.1 ⟨Nat.le_trans (by decide) hR.1, Nat.le_trans (by decide) hR.2.1, hR.2.2⟩ (Nat.le_of_ble_eq_true rfl) dX7_deep_19 ?_
      refine lv_if_ne (tgt := 27) hx hb dX7_deep_22 (by decide) (fun c6 => ?_) (fun c6 => ?_)
      · rw [if_neg c6] at hm
        refine lv_aload_n hx hb dX7_deep_27 rfl (lv_at hl 0 rfl) ?_
        refine lv_iload_n hx hb dX7_deep_28 rfl (lv_at hl 1 rfl) ?_
        refine lv_iload_n hx hb dX7_deep_29 rfl (lv_at hl 2 rfl) ?_
        obtain ⟨r7, h8, hm⟩ := jb_out hm
        refine kX7_bitAt ⟨hx, hb, hml, hown, hts⟩ qw_304 hP hK h8 hl.1 ⟨Nat.le_trans (by decide) hR.1, Nat.le_trans (by decide) hR.2.1, hR.2.2⟩ (Nat.le_of_ble_eq_true rfl) dX7_deep_30 ?_
        refine lv_if_ne (tgt := 39) hx hb dX7_deep_33 (by decide) (fun c9 => ?_) (fun c9 => ?_)
        · rw [if_neg c9] at hm
          refine lv_aload_n hx hb dX7_deep_39 rfl (lv_at hl 0 rfl) ?_
          refine va_get (D := D) (ci := 7) (v := .ref oXp) (C := RX7) (T := TX7) (N := 8) hx hb hts tnX7 hown hK hP 0 rfl rfl 1 (by decide) (hts _ qw_297) (fun _ h9 => h9) rfl dX7_deep_40 ?_
          refine lv_iload_n hx hb dX7_deep_43 rfl (lv_at hl 1 rfl) ?_
          obtain ⟨g10, hm⟩ := gd_out hm
          refine va_lald hx hb hK hP 1 1 rfl rfl g10 dX7_deep_44 ?_
          refine lv_lstore (lv' := [(4, .long (xpi a1.toNatClampNeg)), (0, .ref oX), (1, .int a1), (2, .int a2), (3, .int a3)]) hx hb dX7_deep_45 hl (by decide) rfl (fun ls hl => ?_)
          refine lv_iconst (v := (1 : Int32)) hx hb dX7_deep_47 (by decide) ?_
          refine lv_istore (lv' := [(6, .int (1 : Int32)), (4, .long (xpi a1.toNatClampNeg)), (0, .ref oX), (1, .int a1), (2, .int a2), (3, .int a3)]) hx hb dX7_deep_48 hl (by decide) rfl (fun ls hl => ?_)
          obtain ⟨z18, h17, hm⟩ := jb_out hm
          refine wX7_deep_L50 hx hb hml hown hts hK hP hR n _ _ _ h17 ls (lv_sub hl [2, 4, 5, 1, 0] rfl) ?_ ?_
          · intro y16 e19 ls hl
            subst e19
            simp only [el2] at hm
            refine lv_iload hx hb dX7_deep_80 (lv_at hl 0 rfl) ?_
            have hm := Option.some.inj hm
            subst hm
            exact K 82 ls dX7_deep_82
          · intro e20 ls hl
            subst e20
            simp only [el2] at hm
            refine lv_bipush (v := (-9 : Int32)) hx hb dX7_deep_89 (by decide) ?_
            have hm := Option.some.inj hm
            subst hm
            exact K 91 ls dX7_deep_91
        · rw [if_pos c9] at hm
          refine lv_bipush (v := (-3 : Int32)) hx hb dX7_deep_36 (by decide) ?_
          have hm := Option.some.inj hm
          subst hm
          exact K 38 ls dX7_deep_38
      · rw [if_pos c6] at hm
        refine lv_iconst (v := (-1 : Int32)) hx hb dX7_deep_25 (by decide) ?_
        have hm := Option.some.inj hm
        subst hm
        exact K 26 ls dX7_deep_26
set_option maxHeartbeats 4000000 in
set_option maxRecDepth 100000 in
theorem tX7_deep (l : Launch) {D : va_G} {n : Nat} {a1 : Int32} {a2 : Int32} {a3 : Int32} {r : Int32} (hm : mX7_deep n fc xpi fra fst fwh sst srim a1 a2 a3 = some r) : Met l yX7_deep (.code yX7_deep cX7_deep 7 (some .int) :: tw) ({ frames := 3, cells := 0, slots := 0, locals := 74 } : Room) (rdP D [.ref oX, .int a1, .int a2, .int a3] (wdX cJ cG cI oX oXp oXg oG0 oGa0 oG1 oGa1 oG2 oGa2 oQ oQw oI oR oRh oRm oB oBw oS oSs oF oFr oFs oFc oFw xpi gs0 ga0 gs1 ga1 gs2 ga2 qln qwy ijn rsz rhi rmi bsz bfi bla bar bwi srim sst fw fc fwh fbo fra fst fco fro) [(cI, .int), (cJ, .long), (cG, .object "WornShapes$Program")]) (vp_Si (fun q => q = r)) 0 0 (fun _ => False) := by
  refine Met.ofW (cc := cX7_deep) (maxL := 7) (ret := (some .int)) (by decide) rfl ?_
  intro p e s m args below meth c s₁ B hml hv
  obtain ⟨rfl, hP, hK⟩ := hv
  have hx := B.exec
  have hb := B.bytes
  have hr := B.returns
  have hts : ∀ w ∈ tw, w.before _ s = true := fun w h => atoms_spec (ws := .code yX7_deep cX7_deep 7 (some .int) :: tw) B.pre w (List.mem_cons_of_mem _ h)
  have hown : s.vm.findClass RX7 = some m.cls := findClass_of_methodNamed B.named
  have hlocks := B.notSynchronized
  have hl := lv_entry ([.ref oX, .int a1, .int a2, .int a3]) (n := 7) (Nat.le_of_ble_eq_true rfl)
  rw [lg_entry_eq]
  generalize (lg_sl ([.ref oX, .int a1, .int a2, .int a3]) ++ List.replicate (7 - (lg_sl ([.ref oX, .int a1, .int a2, .int a3])).length) Slot.unset).toArray = ls at hl ⊢
  refine bX7_deep hx hb hml hown hts hK hP ⟨Nat.le_of_ble_eq_true rfl, Nat.le_of_ble_eq_true rfl, Nat.zero_le _, Nat.zero_le _⟩ hm ls hl (fun pc ls hd => ?_)
  exact W.iret hx hb hr (fun t ht hW => ⟨r, rfl, rfl, ht⟩) (fun q h => by cases h) hd
set_option maxHeartbeats 4000000 in
set_option maxRecDepth 100000 in
theorem kX7_deep {own : String} {cc : ByteArray} {nL idx pc : Nat} {ls : Array Slot} {rest : List Value} {n : Nat} {a1 : Int32} {a2 : Int32} {a3 : Int32} {r : Int32} (fx : CallFix p m c cc nL s args tw own) (hq : Cond.methodLink own idx yX7_deep ∈ tw) (hP : va_P D vwCl (wdX cJ cG cI oX oXp oXg oG0 oGa0 oG1 oGa1 oG2 oGa2 oQ oQw oI oR oRh oRm oB oBw oS oSs oF oFr oFs oFc oFw xpi gs0 ga0 gs1 ga1 gs2 ga2 qln qwy ijn rsz rhi rmi bsz bfi bla bar bwi srim sst fw fc fwh fbo fra fst fco fro) H) (hK : va_K D vwCl [(cI, .int), (cJ, .long), (cG, .object "WornShapes$Program")] s) (hm : mX7_deep n fc xpi fra fst fwh sst srim a1 a2 a3 = some r) (hsz : ls.size = nL) (hR : 4 ≤ R.frames ∧ 100 ≤ R.locals ∧ cells ≤ R.cells ∧ slots ≤ R.slots) (hst : (rest.map fun v => v.category).sum ≤ 8) (hd : decode cc pc = .ok (.invokevirtual idx, 3)) (kk : W p l e R s m args below meth c H locs cells slots Q (F0 m (pc + 3) ls (.int r :: rest))) : W p l e R s m args below meth c H locs cells slots Q (F0 m pc ls (.int a3 :: .int a2 :: .int a1 :: .ref oX :: rest)) := by
  exact vp_callSi (va_Run.run (va_runV (As := [.int a1, .int a2, .int a3]) (rest := rest) fx (tX7_deep l hm) (cwV 3 fx.2.2.2.2 (tw_V hq qw_338 qw_339 qw_288 qw_340) rfl rfl rfl (by decide +kernel) ⟨hR.1, hR.2.1⟩) ⟨rdP_bl, va_recv hK hP (ci := 7) (q0 := 0) rfl rfl, rdP_ok hP hK⟩ rfl rfl hsz rfl (lv_room hst) hd ⟨hR.2.2.1, hR.2.2.2⟩)) (fun r9 hr9 => by first | (rw [hr9]; exact kk) | (rw [hr9.1]; exact kk))
-- X7_explains
def mX7_explains_L21 (n : Nat) (v1 : Int32) (fra : Nat → Int32) (fst : Nat → Int64) (xpi : Nat → Int64) (v2 : Int32) : Nat → (Int32) → (Int32) → Option ((Int32))
  | 0, _, _ => none
  | k + 1, v3, v4 => (if (512 : Int32) ≤ v4 then some (v3) else gd (ib v1 5) (jb (mX1_grown n fra fst (xpi v1.toNatClampNeg) v4) (fun (r8 : Int64) => gd (ib v2 5) (jl (if r8 = (xpi v2.toNatClampNeg) then (v3 + (1 : Int32)) else v3) (fun j11 => mX7_explains_L21 n v1 fra fst xpi v2 k j11 (v4 + (1 : Int32)))))))
def mX7_explains (n : Nat) (fra : Nat → Int32) (fst : Nat → Int64) (xpi : Nat → Int64) (a1 : Int32) (a2 : Int32) : Option Int32 :=
  (if (mX7_isPicture a1) = 0 then (some (-1 : Int32)) else (if (mX7_isPicture a2) = 0 then (some (-1 : Int32)) else jb (mX7_explains_L21 n a1 fra fst xpi a2 n (0 : Int32) (0 : Int32)) (fun (y15 : Int32) => (some y15))))
theorem dX7_explains_0 : decode cX7_explains 0 = .ok (.iload_n 1, 1) := by decide +kernel
theorem dX7_explains_1 : decode cX7_explains 1 = .ok (.invokestatic 81, 3) := by decide +kernel
theorem dX7_explains_4 : decode cX7_explains 4 = .ok (.ifCond .eq 10, 3) := by decide +kernel
theorem dX7_explains_7 : decode cX7_explains 7 = .ok (.iload_n 2, 1) := by decide +kernel
theorem dX7_explains_8 : decode cX7_explains 8 = .ok (.invokestatic 81, 3) := by decide +kernel
theorem dX7_explains_11 : decode cX7_explains 11 = .ok (.ifCond .ne 5, 3) := by decide +kernel
theorem dX7_explains_14 : decode cX7_explains 14 = .ok (.iconst (-1), 1) := by decide +kernel
theorem dX7_explains_15 : decode cX7_explains 15 = .ok (.ireturn, 1) := by decide +kernel
theorem dX7_explains_16 : decode cX7_explains 16 = .ok (.iconst 0, 1) := by decide +kernel
theorem dX7_explains_17 : decode cX7_explains 17 = .ok (.istore_n 3, 1) := by decide +kernel
theorem dX7_explains_18 : decode cX7_explains 18 = .ok (.iconst 0, 1) := by decide +kernel
theorem dX7_explains_19 : decode cX7_explains 19 = .ok (.istore 4, 2) := by decide +kernel
theorem dX7_explains_21 : decode cX7_explains 21 = .ok (.iload 4, 2) := by decide +kernel
theorem dX7_explains_23 : decode cX7_explains 23 = .ok (.sipush 512, 3) := by decide +kernel
theorem dX7_explains_26 : decode cX7_explains 26 = .ok (.if_icmp .ge 37, 3) := by decide +kernel
theorem dX7_explains_29 : decode cX7_explains 29 = .ok (.aload_n 0, 1) := by decide +kernel
theorem dX7_explains_30 : decode cX7_explains 30 = .ok (.getfield 14, 3) := by decide +kernel
theorem dX7_explains_33 : decode cX7_explains 33 = .ok (.aload_n 0, 1) := by decide +kernel
theorem dX7_explains_34 : decode cX7_explains 34 = .ok (.getfield 18, 3) := by decide +kernel
theorem dX7_explains_37 : decode cX7_explains 37 = .ok (.iload_n 1, 1) := by decide +kernel
theorem dX7_explains_38 : decode cX7_explains 38 = .ok (.laload, 1) := by decide +kernel
theorem dX7_explains_39 : decode cX7_explains 39 = .ok (.iload 4, 2) := by decide +kernel
theorem dX7_explains_41 : decode cX7_explains 41 = .ok (.invokevirtual 188, 3) := by decide +kernel
theorem dX7_explains_44 : decode cX7_explains 44 = .ok (.aload_n 0, 1) := by decide +kernel
theorem dX7_explains_45 : decode cX7_explains 45 = .ok (.getfield 18, 3) := by decide +kernel
theorem dX7_explains_48 : decode cX7_explains 48 = .ok (.iload_n 2, 1) := by decide +kernel
theorem dX7_explains_49 : decode cX7_explains 49 = .ok (.laload, 1) := by decide +kernel
theorem dX7_explains_50 : decode cX7_explains 50 = .ok (.lcmp, 1) := by decide +kernel
theorem dX7_explains_51 : decode cX7_explains 51 = .ok (.ifCond .ne 6, 3) := by decide +kernel
theorem dX7_explains_54 : decode cX7_explains 54 = .ok (.iinc 3 1, 3) := by decide +kernel
theorem dX7_explains_57 : decode cX7_explains 57 = .ok (.iinc 4 1, 3) := by decide +kernel
theorem dX7_explains_60 : decode cX7_explains 60 = .ok (.goto (-39), 3) := by decide +kernel
theorem dX7_explains_63 : decode cX7_explains 63 = .ok (.iload_n 3, 1) := by decide +kernel
theorem dX7_explains_64 : decode cX7_explains 64 = .ok (.ireturn, 1) := by decide +kernel
set_option maxHeartbeats 4000000 in
set_option maxRecDepth 100000 in
theorem wX7_explains_L21 {n : Nat} {v1 : Int32} {v2 : Int32} (hx : p.tables.exec = Jvm.exec) (hb : c.code = cX7_explains) (hml : c.maxLocals = 5) (hown : s.vm.findClass RX7 = some m.cls) (hts : ∀ w ∈ tw, w.before args s = true) (hK : va_K D vwCl [(cI, .int), (cJ, .long), (cG, .object "WornShapes$Program")] s) (hP : va_P D vwCl (wdX cJ cG cI oX oXp oXg oG0 oGa0 oG1 oGa1 oG2 oGa2 oQ oQw oI oR oRh oRm oB oBw oS oSs oF oFr oFs oFc oFw xpi gs0 ga0 gs1 ga1 gs2 ga2 qln qwy ijn rsz rhi rmi bsz bfi bla bar bwi srim sst fw fc fwh fbo fra fst fco fro) H) (hR : 2 ≤ R.frames ∧ 52 ≤ R.locals ∧ cells ≤ R.cells ∧ slots ≤ R.slots) : ∀ (k : Nat) (v3 : Int32) (v4 : Int32) (x3 : Int32), mX7_explains_L21 n v1 fra fst xpi v2 k v3 v4 = some (x3) → ∀ ls : Array Slot, lv_has ls 5 [(0, .ref oX), (1, .int v1), (2, .int v2), (3, .int v3), (4, .int v4)] → (∀ ls : Array Slot, lv_has ls 5 [(3, .int x3)] → W p l e R s m args below meth c H locs cells slots Q (F0 m 63 ls [])) → W p l e R s m args below meth c H locs cells slots Q (F0 m 21 ls []) := by
  intro k
  induction k with
  | zero => intro v3 v4 x3 hm; rw [mX7_explains_L21] at hm; cases hm
  | succ k ih =>
    intro v3 v4 x3 hm ls hl K0
    rw [mX7_explains_L21] at hm
    refine lv_iload hx hb dX7_explains_21 (lv_at hl 4 rfl) ?_
    refine lv_sipush (v := (512 : Int32)) hx hb dX7_explains_23 (by decide) ?_
    refine lv_icmp_ge (tgt := 63) hx hb dX7_explains_26 (by decide) (fun c6 => ?_) (fun c6 => ?_)
    · rw [if_pos c6] at hm
      have hm := Option.some.inj hm
      have e9 : x3 = v3 := (congrArg (fun q => q) hm).symm
      rw [e9] at K0
      exact K0 ls (lv_sub hl [3] rfl)
    · rw [if_neg c6] at hm
      refine lv_aload_n hx hb dX7_explains_29 rfl (lv_at hl 0 rfl) ?_
      refine va_get (D := D) (ci := 7) (v := .ref oF) (C := RX7) (T := TX7) (N := 8) hx hb hts tnX7 hown hK hP 0 rfl rfl 0 (by decide) (hts _ qw_302) (fun _ h9 => h9) rfl dX7_explains_30 ?_
      refine lv_aload_n hx hb dX7_explains_33 rfl (lv_at hl 0 rfl) ?_
      refine va_get (D := D) (ci := 7) (v := .ref oXp) (C := RX7) (T := TX7) (N := 8) hx hb hts tnX7 hown hK hP 0 rfl rfl 1 (by decide) (hts _ qw_297) (fun _ h9 => h9) rfl dX7_explains_34 ?_
      refine lv_iload_n hx hb dX7_explains_37 rfl (lv_at hl 1 rfl) ?_
      obtain ⟨g7, hm⟩ := gd_out hm
      refine va_lald hx hb hK hP 1 1 rfl rfl g7 dX7_explains_38 ?_
      refine lv_iload hx hb dX7_explains_39 (lv_at hl 4 rfl) ?_
      obtain ⟨r8, h9, hm⟩ := jb_out hm
      refine kX1_grown ⟨hx, hb, hml, hown, hts⟩ qw_341 (hP.sub (ws' := (wdF cI cJ oF oFr oFs oFc oFw fw fc fwh fbo fra fst fco fro)) [19, 20, 21, 22, 23] rfl) (hK.sub (tys' := [(cI, .int), (cJ, .long)]) [0, 1] rfl) h9 hl.1 ⟨Nat.le_trans (by decide) hR.1, Nat.le_trans (by decide) hR.2.1, hR.2.2⟩ (Nat.le_of_ble_eq_true rfl) dX7_explains_41 ?_
      refine lv_aload_n hx hb dX7_explains_44 rfl (lv_at hl 0 rfl) ?_
      refine va_get (D := D) (ci := 7) (v := .ref oXp) (C := RX7) (T := TX7) (N := 8) hx hb hts tnX7 hown hK hP 0 rfl rfl 1 (by decide) (hts _ qw_297) (fun _ h9 => h9) rfl dX7_explains_45 ?_
      refine lv_iload_n hx hb dX7_explains_48 rfl (lv_at hl 2 rfl) ?_
      obtain ⟨g10, hm⟩ := gd_out hm
      refine va_lald hx hb hK hP 1 1 rfl rfl g10 dX7_explains_49 ?_
      refine W.lcmp hx hb dX7_explains_50 ?_
      obtain ⟨j11, hi12, hm⟩ := jl_out hm
      have key13 : ∀ (ls : Array Slot), lv_has ls 5 [(3, .int j11), (0, .ref oX), (1, .int v1), (2, .int v2), (4, .int v4)] → W p l e R s m args below meth c H locs cells slots Q (F0 m 57 ls []) := by
        intro ls hl
        refine lv_iinc (v := (v4 + (1 : Int32))) (lv' := [(4, .int (v4 + (1 : Int32))), (3, .int j11), (0, .ref oX), (1, .int v1), (2, .int v2)]) hx hb dX7_explains_57 hl (k := 4) rfl (by rfl) (by decide) rfl (fun ls hl => ?_)
        refine lv_goto (tgt := 21) hx hb dX7_explains_60 (by decide) ?_
        exact ih _ _ _ hm ls (lv_sub hl [2, 3, 4, 1, 0] rfl) K0
      refine lv_if_ne (tgt := 57) hx hb dX7_explains_51 (by decide) (fun c14 => ?_) (fun c14 => ?_)
      · have c14 := fun h9 => c14 ((lg_cmp_eq r8 (xpi v2.toNatClampNeg)).mpr h9)
        rw [if_neg c14] at hi12
        rw [hi12] at key13
        exact key13 ls (lv_sub hl [3, 0, 1, 2, 4] rfl)
      · have c14 := (lg_cmp_eq r8 (xpi v2.toNatClampNeg)).mp c14
        rw [if_pos c14] at hi12
        refine lv_iinc (v := (v3 + (1 : Int32))) (lv' := [(3, .int (v3 + (1 : Int32))), (0, .ref oX), (1, .int v1), (2, .int v2), (4, .int v4)]) hx hb dX7_explains_54 hl (k := 3) rfl (by rfl) (by decide) rfl (fun ls hl => ?_)
        rw [hi12] at key13
        exact key13 ls (lv_sub hl [0, 1, 2, 3, 4] rfl)
set_option maxHeartbeats 4000000 in
set_option maxRecDepth 100000 in
theorem bX7_explains {n : Nat} {a1 : Int32} {a2 : Int32} {r : Int32} (hx : p.tables.exec = Jvm.exec) (hb : c.code = cX7_explains) (hml : c.maxLocals = 5) (hown : s.vm.findClass RX7 = some m.cls) (hts : ∀ w ∈ tw, w.before args s = true) (hK : va_K D vwCl [(cI, .int), (cJ, .long), (cG, .object "WornShapes$Program")] s) (hP : va_P D vwCl (wdX cJ cG cI oX oXp oXg oG0 oGa0 oG1 oGa1 oG2 oGa2 oQ oQw oI oR oRh oRm oB oBw oS oSs oF oFr oFs oFc oFw xpi gs0 ga0 gs1 ga1 gs2 ga2 qln qwy ijn rsz rhi rmi bsz bfi bla bar bwi srim sst fw fc fwh fbo fra fst fco fro) H) (hR : 2 ≤ R.frames ∧ 52 ≤ R.locals ∧ cells ≤ R.cells ∧ slots ≤ R.slots) (hm : mX7_explains n fra fst xpi a1 a2 = some r) (ls : Array Slot) (hl : lv_has ls 5 [(0, .ref oX), (1, .int a1), (2, .int a2)]) (K : ∀ (pc : Nat) (ls : Array Slot), decode cX7_explains pc = .ok (.ireturn, 1) → W p l e R s m args below meth c H locs cells slots Q (F0 m pc ls [.int r])) : W p l e R s m args below meth c H locs cells slots Q (F0 m 0 ls []) := by
  unfold mX7_explains at hm
  refine lv_iload_n hx hb dX7_explains_0 rfl (lv_at hl 1 rfl) ?_
  refine kX7_isPicture ⟨hx, hb, hml, hown, hts⟩ qw_301 hl.1 ⟨Nat.le_trans (by decide) hR.1, Nat.le_trans (by decide) hR.2.1, hR.2.2⟩ (Nat.le_of_ble_eq_true rfl) dX7_explains_1 ?_
  refine lv_if_eq (tgt := 14) hx hb dX7_explains_4 (by decide) (fun c2 => ?_) (fun c2 => ?_)
  · rw [if_pos c2] at hm
    refine lv_iconst (v := (-1 : Int32)) hx hb dX7_explains_14 (by decide) ?_
    have hm := Option.some.inj hm
    subst hm
    exact K 15 ls dX7_explains_15
  · rw [if_neg c2] at hm
    refine lv_iload_n hx hb dX7_explains_7 rfl (lv_at hl 2 rfl) ?_
    refine kX7_isPicture ⟨hx, hb, hml, hown, hts⟩ qw_301 hl.1 ⟨Nat.le_trans (by decide) hR.1, Nat.le_trans (by decide) hR.2.1, hR.2.2⟩ (Nat.le_of_ble_eq_true rfl) dX7_explains_8 ?_
    refine lv_if_ne (tgt := 16) hx hb dX7_explains_11 (by decide) (fun c4 => ?_) (fun c4 => ?_)
    · rw [if_neg c4] at hm
      refine lv_iconst (v := (0 : Int32)) hx hb dX7_explains_16 (by decide) ?_
      refine lv_istore_n (lv' := [(3, .int (0 : Int32)), (0, .ref oX), (1, .int a1), (2, .int a2)]) hx hb dX7_explains_17 rfl hl (by decide) rfl (fun ls hl => ?_)
      refine lv_iconst (v := (0 : Int32)) hx hb dX7_explains_18 (by decide) ?_
      refine lv_istore (lv' := [(4, .int (0 : Int32)), (3, .int (0 : Int32)), (0, .ref oX), (1, .int a1), (2, .int a2)]) hx hb dX7_explains_19 hl (by decide) rfl (fun ls hl => ?_)
      obtain ⟨y15, h16, hm⟩ := jb_out hm
      refine wX7_explains_L21 hx hb hml hown hts hK hP hR n _ _ _  h16 ls (lv_sub hl [2, 3, 4, 1, 0] rfl) (fun ls hl => ?_)
      refine lv_iload_n hx hb dX7_explains_63 rfl (lv_at hl 0 rfl) ?_
      have hm := Option.some.inj hm
      subst hm
      exact K 64 ls dX7_explains_64
    · rw [if_pos c4] at hm
      refine lv_iconst (v := (-1 : Int32)) hx hb dX7_explains_14 (by decide) ?_
      have hm := Option.some.inj hm
      subst hm
      exact K 15 ls dX7_explains_15
set_option maxHeartbeats 4000000 in
set_option maxRecDepth 100000 in
theorem tX7_explains (l : Launch) {D : va_G} {n : Nat} {a1 : Int32} {a2 : Int32} {r : Int32} (hm : mX7_explains n fra fst xpi a1 a2 = some r) : Met l yX7_explains (.code yX7_explains cX7_explains 5 (some .int) :: tw) ({ frames := 2, cells := 0, slots := 0, locals := 52 } : Room) (rdP D [.ref oX, .int a1, .int a2] (wdX cJ cG cI oX oXp oXg oG0 oGa0 oG1 oGa1 oG2 oGa2 oQ oQw oI oR oRh oRm oB oBw oS oSs oF oFr oFs oFc oFw xpi gs0 ga0 gs1 ga1 gs2 ga2 qln qwy ijn rsz rhi rmi bsz bfi bla bar bwi srim sst fw fc fwh fbo fra fst fco fro) [(cI, .int), (cJ, .long), (cG, .object "WornShapes$Program")]) (vp_Si (fun q => q = r)) 0 0 (fun _ => False) := by
  refine Met.ofW (cc := cX7_explains) (maxL := 5) (ret := (some .int)) (by decide) rfl ?_
  intro p e s m args below meth c s₁ B hml hv
  obtain ⟨rfl, hP, hK⟩ := hv
  have hx := B.exec
  have hb := B.bytes
  have hr := B.returns
  have hts : ∀ w ∈ tw, w.before _ s = true := fun w h => atoms_spec (ws := .code yX7_explains cX7_explains 5 (some .int) :: tw) B.pre w (List.mem_cons_of_mem _ h)
  have hown : s.vm.findClass RX7 = some m.cls := findClass_of_methodNamed B.named
  have hlocks := B.notSynchronized
  have hl := lv_entry ([.ref oX, .int a1, .int a2]) (n := 5) (Nat.le_of_ble_eq_true rfl)
  rw [lg_entry_eq]
  generalize (lg_sl ([.ref oX, .int a1, .int a2]) ++ List.replicate (5 - (lg_sl ([.ref oX, .int a1, .int a2])).length) Slot.unset).toArray = ls at hl ⊢
  refine bX7_explains hx hb hml hown hts hK hP ⟨Nat.le_of_ble_eq_true rfl, Nat.le_of_ble_eq_true rfl, Nat.zero_le _, Nat.zero_le _⟩ hm ls hl (fun pc ls hd => ?_)
  exact W.iret hx hb hr (fun t ht hW => ⟨r, rfl, rfl, ht⟩) (fun q h => by cases h) hd
set_option maxHeartbeats 4000000 in
set_option maxRecDepth 100000 in
theorem kX7_explains {own : String} {cc : ByteArray} {nL idx pc : Nat} {ls : Array Slot} {rest : List Value} {n : Nat} {a1 : Int32} {a2 : Int32} {r : Int32} (fx : CallFix p m c cc nL s args tw own) (hq : Cond.methodLink own idx yX7_explains ∈ tw) (hP : va_P D vwCl (wdX cJ cG cI oX oXp oXg oG0 oGa0 oG1 oGa1 oG2 oGa2 oQ oQw oI oR oRh oRm oB oBw oS oSs oF oFr oFs oFc oFw xpi gs0 ga0 gs1 ga1 gs2 ga2 qln qwy ijn rsz rhi rmi bsz bfi bla bar bwi srim sst fw fc fwh fbo fra fst fco fro) H) (hK : va_K D vwCl [(cI, .int), (cJ, .long), (cG, .object "WornShapes$Program")] s) (hm : mX7_explains n fra fst xpi a1 a2 = some r) (hsz : ls.size = nL) (hR : 3 ≤ R.frames ∧ 76 ≤ R.locals ∧ cells ≤ R.cells ∧ slots ≤ R.slots) (hst : (rest.map fun v => v.category).sum ≤ 8) (hd : decode cc pc = .ok (.invokevirtual idx, 3)) (kk : W p l e R s m args below meth c H locs cells slots Q (F0 m (pc + 3) ls (.int r :: rest))) : W p l e R s m args below meth c H locs cells slots Q (F0 m pc ls (.int a2 :: .int a1 :: .ref oX :: rest)) := by
  exact vp_callSi (va_Run.run (va_runV (As := [.int a1, .int a2]) (rest := rest) fx (tX7_explains l hm) (cwV 2 fx.2.2.2.2 (tw_V hq qw_342 qw_343 qw_288 qw_344) rfl rfl rfl (by decide +kernel) ⟨hR.1, hR.2.1⟩) ⟨rdP_bl, va_recv hK hP (ci := 7) (q0 := 0) rfl rfl, rdP_ok hP hK⟩ rfl rfl hsz rfl (lv_room hst) hd ⟨hR.2.2.1, hR.2.2.2⟩)) (fun r9 hr9 => by first | (rw [hr9]; exact kk) | (rw [hr9.1]; exact kk))
-- X7_least
def mX7_least_L26 (n : Nat) (v1 : Int32) (fra : Nat → Int32) (fst : Nat → Int64) (xpi : Nat → Int64) (v2 : Int32) : Nat → (Int32) → (Int32) → (Int32) → Option ((Int32))
  | 0, _, _, _ => none
  | k + 1, v3, v4, v5 => (if (512 : Int32) ≤ v5 then some (v3) else jb2 (if v4 ≤ (mJ6_bitCount_0f7a4 v5) then (some (v3, v4)) else gd (ib v1 5) (jb (mX1_grown n fra fst (xpi v1.toNatClampNeg) v5) (fun (r14 : Int64) => gd (ib v2 5) ((if r14 = (xpi v2.toNatClampNeg) then (some (v5, (mJ6_bitCount_0f7a4 v5))) else (some (v3, v4))))))) (fun (j8 : Int32) (j9 : Int32) => mX7_least_L26 n v1 fra fst xpi v2 k j8 j9 (v5 + (1 : Int32))))
def mX7_least (n : Nat) (fra : Nat → Int32) (fst : Nat → Int64) (xpi : Nat → Int64) (a1 : Int32) (a2 : Int32) : Option Int32 :=
  (if (mX7_isPicture a1) = 0 then (some (-1 : Int32)) else (if (mX7_isPicture a2) = 0 then (some (-1 : Int32)) else jb (mX7_least_L26 n a1 fra fst xpi a2 n (-9 : Int32) (10 : Int32) (0 : Int32)) (fun (y19 : Int32) => (some y19))))
theorem dX7_least_0 : decode cX7_least 0 = .ok (.iload_n 1, 1) := by decide +kernel
theorem dX7_least_1 : decode cX7_least 1 = .ok (.invokestatic 81, 3) := by decide +kernel
theorem dX7_least_4 : decode cX7_least 4 = .ok (.ifCond .eq 10, 3) := by decide +kernel
theorem dX7_least_7 : decode cX7_least 7 = .ok (.iload_n 2, 1) := by decide +kernel
theorem dX7_least_8 : decode cX7_least 8 = .ok (.invokestatic 81, 3) := by decide +kernel
theorem dX7_least_11 : decode cX7_least 11 = .ok (.ifCond .ne 5, 3) := by decide +kernel
theorem dX7_least_14 : decode cX7_least 14 = .ok (.iconst (-1), 1) := by decide +kernel
theorem dX7_least_15 : decode cX7_least 15 = .ok (.ireturn, 1) := by decide +kernel
theorem dX7_least_16 : decode cX7_least 16 = .ok (.bipush (-9), 2) := by decide +kernel
theorem dX7_least_18 : decode cX7_least 18 = .ok (.istore_n 3, 1) := by decide +kernel
theorem dX7_least_19 : decode cX7_least 19 = .ok (.bipush 10, 2) := by decide +kernel
theorem dX7_least_21 : decode cX7_least 21 = .ok (.istore 4, 2) := by decide +kernel
theorem dX7_least_23 : decode cX7_least 23 = .ok (.iconst 0, 1) := by decide +kernel
theorem dX7_least_24 : decode cX7_least 24 = .ok (.istore 5, 2) := by decide +kernel
theorem dX7_least_26 : decode cX7_least 26 = .ok (.iload 5, 2) := by decide +kernel
theorem dX7_least_28 : decode cX7_least 28 = .ok (.sipush 512, 3) := by decide +kernel
theorem dX7_least_31 : decode cX7_least 31 = .ok (.if_icmp .ge 54, 3) := by decide +kernel
theorem dX7_least_34 : decode cX7_least 34 = .ok (.iload 5, 2) := by decide +kernel
theorem dX7_least_36 : decode cX7_least 36 = .ok (.invokestatic 191, 3) := by decide +kernel
theorem dX7_least_39 : decode cX7_least 39 = .ok (.iload 4, 2) := by decide +kernel
theorem dX7_least_41 : decode cX7_least 41 = .ok (.if_icmp .ge 38, 3) := by decide +kernel
theorem dX7_least_44 : decode cX7_least 44 = .ok (.aload_n 0, 1) := by decide +kernel
theorem dX7_least_45 : decode cX7_least 45 = .ok (.getfield 14, 3) := by decide +kernel
theorem dX7_least_48 : decode cX7_least 48 = .ok (.aload_n 0, 1) := by decide +kernel
theorem dX7_least_49 : decode cX7_least 49 = .ok (.getfield 18, 3) := by decide +kernel
theorem dX7_least_52 : decode cX7_least 52 = .ok (.iload_n 1, 1) := by decide +kernel
theorem dX7_least_53 : decode cX7_least 53 = .ok (.laload, 1) := by decide +kernel
theorem dX7_least_54 : decode cX7_least 54 = .ok (.iload 5, 2) := by decide +kernel
theorem dX7_least_56 : decode cX7_least 56 = .ok (.invokevirtual 188, 3) := by decide +kernel
theorem dX7_least_59 : decode cX7_least 59 = .ok (.aload_n 0, 1) := by decide +kernel
theorem dX7_least_60 : decode cX7_least 60 = .ok (.getfield 18, 3) := by decide +kernel
theorem dX7_least_63 : decode cX7_least 63 = .ok (.iload_n 2, 1) := by decide +kernel
theorem dX7_least_64 : decode cX7_least 64 = .ok (.laload, 1) := by decide +kernel
theorem dX7_least_65 : decode cX7_least 65 = .ok (.lcmp, 1) := by decide +kernel
theorem dX7_least_66 : decode cX7_least 66 = .ok (.ifCond .ne 13, 3) := by decide +kernel
theorem dX7_least_69 : decode cX7_least 69 = .ok (.iload 5, 2) := by decide +kernel
theorem dX7_least_71 : decode cX7_least 71 = .ok (.istore_n 3, 1) := by decide +kernel
theorem dX7_least_72 : decode cX7_least 72 = .ok (.iload 5, 2) := by decide +kernel
theorem dX7_least_74 : decode cX7_least 74 = .ok (.invokestatic 191, 3) := by decide +kernel
theorem dX7_least_77 : decode cX7_least 77 = .ok (.istore 4, 2) := by decide +kernel
theorem dX7_least_79 : decode cX7_least 79 = .ok (.iinc 5 1, 3) := by decide +kernel
theorem dX7_least_82 : decode cX7_least 82 = .ok (.goto (-56), 3) := by decide +kernel
theorem dX7_least_85 : decode cX7_least 85 = .ok (.iload_n 3, 1) := by decide +kernel
theorem dX7_least_86 : decode cX7_least 86 = .ok (.ireturn, 1) := by decide +kernel
set_option maxHeartbeats 4000000 in
set_option maxRecDepth 100000 in
theorem wX7_least_L26 {n : Nat} {v1 : Int32} {v2 : Int32} (hx : p.tables.exec = Jvm.exec) (hb : c.code = cX7_least) (hml : c.maxLocals = 6) (hown : s.vm.findClass RX7 = some m.cls) (hts : ∀ w ∈ tw, w.before args s = true) (hK : va_K D vwCl [(cI, .int), (cJ, .long), (cG, .object "WornShapes$Program")] s) (hP : va_P D vwCl (wdX cJ cG cI oX oXp oXg oG0 oGa0 oG1 oGa1 oG2 oGa2 oQ oQw oI oR oRh oRm oB oBw oS oSs oF oFr oFs oFc oFw xpi gs0 ga0 gs1 ga1 gs2 ga2 qln qwy ijn rsz rhi rmi bsz bfi bla bar bwi srim sst fw fc fwh fbo fra fst fco fro) H) (hR : 2 ≤ R.frames ∧ 52 ≤ R.locals ∧ cells ≤ R.cells ∧ slots ≤ R.slots) : ∀ (k : Nat) (v3 : Int32) (v4 : Int32) (v5 : Int32) (x3 : Int32), mX7_least_L26 n v1 fra fst xpi v2 k v3 v4 v5 = some (x3) → ∀ ls : Array Slot, lv_has ls 6 [(0, .ref oX), (1, .int v1), (2, .int v2), (3, .int v3), (4, .int v4), (5, .int v5)] → (∀ ls : Array Slot, lv_has ls 6 [(3, .int x3)] → W p l e R s m args below meth c H locs cells slots Q (F0 m 85 ls [])) → W p l e R s m args below meth c H locs cells slots Q (F0 m 26 ls []) := by
  intro k
  induction k with
  | zero => intro v3 v4 v5 x3 hm; rw [mX7_least_L26] at hm; cases hm
  | succ k ih =>
    intro v3 v4 v5 x3 hm ls hl K0
    rw [mX7_least_L26] at hm
    refine lv_iload hx hb dX7_least_26 (lv_at hl 5 rfl) ?_
    refine lv_sipush (v := (512 : Int32)) hx hb dX7_least_28 (by decide) ?_
    refine lv_icmp_ge (tgt := 85) hx hb dX7_least_31 (by decide) (fun c6 => ?_) (fun c6 => ?_)
    · rw [if_pos c6] at hm
      have hm := Option.some.inj hm
      have e9 : x3 = v3 := (congrArg (fun q => q) hm).symm
      rw [e9] at K0
      exact K0 ls (lv_sub hl [3] rfl)
    · rw [if_neg c6] at hm
      refine lv_iload hx hb dX7_least_34 (lv_at hl 5 rfl) ?_
      refine kJ6_bitCount_0f7a4 ⟨hx, hb, hml, hown, hts⟩ qw_345 hl.1 ⟨Nat.le_trans (by decide) hR.1, Nat.le_trans (by decide) hR.2.1, hR.2.2⟩ (Nat.le_of_ble_eq_true rfl) dX7_least_36 ?_
      refine lv_iload hx hb dX7_least_39 (lv_at hl 4 rfl) ?_
      obtain ⟨j8, j9, hi10, hm⟩ := jb_out2 hm
      have key11 : ∀ (ls : Array Slot), lv_has ls 6 [(3, .int j8), (4, .int j9), (0, .ref oX), (1, .int v1), (2, .int v2), (5, .int v5)] → W p l e R s m args below meth c H locs cells slots Q (F0 m 79 ls []) := by
        intro ls hl
        refine lv_iinc (v := (v5 + (1 : Int32))) (lv' := [(5, .int (v5 + (1 : Int32))), (3, .int j8), (4, .int j9), (0, .ref oX), (1, .int v1), (2, .int v2)]) hx hb dX7_least_79 hl (k := 5) rfl (by rfl) (by decide) rfl (fun ls hl => ?_)
        refine lv_goto (tgt := 26) hx hb dX7_least_82 (by decide) ?_
        exact ih _ _ _ _ hm ls (lv_sub hl [3, 4, 5, 1, 2, 0] rfl) K0
      refine lv_icmp_ge (tgt := 79) hx hb dX7_least_41 (by decide) (fun c12 => ?_) (fun c12 => ?_)
      · rw [if_pos c12] at hi10
        have hi10 := Option.some.inj hi10
        have e9 : j8 = v3 := (congrArg (fun q => q.1) hi10).symm
        rw [e9] at key11
        have e9 : j9 = v4 := (congrArg (fun q => q.2) hi10).symm
        rw [e9] at key11
        exact key11 ls (lv_sub hl [3, 4, 0, 1, 2, 5] rfl)
      · rw [if_neg c12] at hi10
        refine lv_aload_n hx hb dX7_least_44 rfl (lv_at hl 0 rfl) ?_
        refine va_get (D := D) (ci := 7) (v := .ref oF) (C := RX7) (T := TX7) (N := 8) hx hb hts tnX7 hown hK hP 0 rfl rfl 0 (by decide) (hts _ qw_302) (fun _ h9 => h9) rfl dX7_least_45 ?_
        refine lv_aload_n hx hb dX7_least_48 rfl (lv_at hl 0 rfl) ?_
        refine va_get (D := D) (ci := 7) (v := .ref oXp) (C := RX7) (T := TX7) (N := 8) hx hb hts tnX7 hown hK hP 0 rfl rfl 1 (by decide) (hts _ qw_297) (fun _ h9 => h9) rfl dX7_least_49 ?_
        refine lv_iload_n hx hb dX7_least_52 rfl (lv_at hl 1 rfl) ?_
        obtain ⟨g13, hi10⟩ := gd_out hi10
        refine va_lald hx hb hK hP 1 1 rfl rfl g13 dX7_least_53 ?_
        refine lv_iload hx hb dX7_least_54 (lv_at hl 5 rfl) ?_
        obtain ⟨r14, h15, hi10⟩ := jb_out hi10
        refine kX1_grown ⟨hx, hb, hml, hown, hts⟩ qw_341 (hP.sub (ws' := (wdF cI cJ oF oFr oFs oFc oFw fw fc fwh fbo fra fst fco fro)) [19, 20, 21, 22, 23] rfl) (hK.sub (tys' := [(cI, .int), (cJ, .long)]) [0, 1] rfl) h15 hl.1 ⟨Nat.le_trans (by decide) hR.1, Nat.le_trans (by decide) hR.2.1, hR.2.2⟩ (Nat.le_of_ble_eq_true rfl) dX7_least_56 ?_
        refine lv_aload_n hx hb dX7_least_59 rfl (lv_at hl 0 rfl) ?_
        refine va_get (D := D) (ci := 7) (v := .ref oXp) (C := RX7) (T := TX7) (N := 8) hx hb hts tnX7 hown hK hP 0 rfl rfl 1 (by decide) (hts _ qw_297) (fun _ h9 => h9) rfl dX7_least_60 ?_
        refine lv_iload_n hx hb dX7_least_63 rfl (lv_at hl 2 rfl) ?_
        obtain ⟨g16, hi10⟩ := gd_out hi10
        refine va_lald hx hb hK hP 1 1 rfl rfl g16 dX7_least_64 ?_
        refine W.lcmp hx hb dX7_least_65 ?_
        refine lv_if_ne (tgt := 79) hx hb dX7_least_66 (by decide) (fun c17 => ?_) (fun c17 => ?_)
        · have c17 := fun h9 => c17 ((lg_cmp_eq r14 (xpi v2.toNatClampNeg)).mpr h9)
          rw [if_neg c17] at hi10
          have hi10 := Option.some.inj hi10
          have e9 : j8 = v3 := (congrArg (fun q => q.1) hi10).symm
          rw [e9] at key11
          have e9 : j9 = v4 := (congrArg (fun q => q.2) hi10).symm
          rw [e9] at key11
          exact key11 ls (lv_sub hl [3, 4, 0, 1, 2, 5] rfl)
        · have c17 := (lg_cmp_eq r14 (xpi v2.toNatClampNeg)).mp c17
          rw [if_pos c17] at hi10
          refine lv_iload hx hb dX7_least_69 (lv_at hl 5 rfl) ?_
          refine lv_istore_n (lv' := [(3, .int v5), (0, .ref oX), (1, .int v1), (2, .int v2), (4, .int v4), (5, .int v5)]) hx hb dX7_least_71 rfl hl (by decide) rfl (fun ls hl => ?_)
          refine lv_iload hx hb dX7_least_72 (lv_at hl 5 rfl) ?_
          refine kJ6_bitCount_0f7a4 ⟨hx, hb, hml, hown, hts⟩ qw_345 hl.1 ⟨Nat.le_trans (by decide) hR.1, Nat.le_trans (by decide) hR.2.1, hR.2.2⟩ (Nat.le_of_ble_eq_true rfl) dX7_least_74 ?_
          refine lv_istore (lv' := [(4, .int (mJ6_bitCount_0f7a4 v5)), (3, .int v5), (0, .ref oX), (1, .int v1), (2, .int v2), (5, .int v5)]) hx hb dX7_least_77 hl (by decide) rfl (fun ls hl => ?_)
          have hi10 := Option.some.inj hi10
          have e9 : j8 = v5 := (congrArg (fun q => q.1) hi10).symm
          rw [e9] at key11
          have e9 : j9 = (mJ6_bitCount_0f7a4 v5) := (congrArg (fun q => q.2) hi10).symm
          rw [e9] at key11
          exact key11 ls (lv_sub hl [1, 0, 2, 3, 4, 5] rfl)
set_option maxHeartbeats 4000000 in
set_option maxRecDepth 100000 in
theorem bX7_least {n : Nat} {a1 : Int32} {a2 : Int32} {r : Int32} (hx : p.tables.exec = Jvm.exec) (hb : c.code = cX7_least) (hml : c.maxLocals = 6) (hown : s.vm.findClass RX7 = some m.cls) (hts : ∀ w ∈ tw, w.before args s = true) (hK : va_K D vwCl [(cI, .int), (cJ, .long), (cG, .object "WornShapes$Program")] s) (hP : va_P D vwCl (wdX cJ cG cI oX oXp oXg oG0 oGa0 oG1 oGa1 oG2 oGa2 oQ oQw oI oR oRh oRm oB oBw oS oSs oF oFr oFs oFc oFw xpi gs0 ga0 gs1 ga1 gs2 ga2 qln qwy ijn rsz rhi rmi bsz bfi bla bar bwi srim sst fw fc fwh fbo fra fst fco fro) H) (hR : 2 ≤ R.frames ∧ 52 ≤ R.locals ∧ cells ≤ R.cells ∧ slots ≤ R.slots) (hm : mX7_least n fra fst xpi a1 a2 = some r) (ls : Array Slot) (hl : lv_has ls 6 [(0, .ref oX), (1, .int a1), (2, .int a2)]) (K : ∀ (pc : Nat) (ls : Array Slot), decode cX7_least pc = .ok (.ireturn, 1) → W p l e R s m args below meth c H locs cells slots Q (F0 m pc ls [.int r])) : W p l e R s m args below meth c H locs cells slots Q (F0 m 0 ls []) := by
  unfold mX7_least at hm
  refine lv_iload_n hx hb dX7_least_0 rfl (lv_at hl 1 rfl) ?_
  refine kX7_isPicture ⟨hx, hb, hml, hown, hts⟩ qw_301 hl.1 ⟨Nat.le_trans (by decide) hR.1, Nat.le_trans (by decide) hR.2.1, hR.2.2⟩ (Nat.le_of_ble_eq_true rfl) dX7_least_1 ?_
  refine lv_if_eq (tgt := 14) hx hb dX7_least_4 (by decide) (fun c2 => ?_) (fun c2 => ?_)
  · rw [if_pos c2] at hm
    refine lv_iconst (v := (-1 : Int32)) hx hb dX7_least_14 (by decide) ?_
    have hm := Option.some.inj hm
    subst hm
    exact K 15 ls dX7_least_15
  · rw [if_neg c2] at hm
    refine lv_iload_n hx hb dX7_least_7 rfl (lv_at hl 2 rfl) ?_
    refine kX7_isPicture ⟨hx, hb, hml, hown, hts⟩ qw_301 hl.1 ⟨Nat.le_trans (by decide) hR.1, Nat.le_trans (by decide) hR.2.1, hR.2.2⟩ (Nat.le_of_ble_eq_true rfl) dX7_least_8 ?_
    refine lv_if_ne (tgt := 16) hx hb dX7_least_11 (by decide) (fun c4 => ?_) (fun c4 => ?_)
    · rw [if_neg c4] at hm
      refine lv_bipush (v := (-9 : Int32)) hx hb dX7_least_16 (by decide) ?_
      refine lv_istore_n (lv' := [(3, .int (-9 : Int32)), (0, .ref oX), (1, .int a1), (2, .int a2)]) hx hb dX7_least_18 rfl hl (by decide) rfl (fun ls hl => ?_)
      refine lv_bipush (v := (10 : Int32)) hx hb dX7_least_19 (by decide) ?_
      refine lv_istore (lv' := [(4, .int (10 : Int32)), (3, .int (-9 : Int32)), (0, .ref oX), (1, .int a1), (2, .int a2)]) hx hb dX7_least_21 hl (by decide) rfl (fun ls hl => ?_)
      refine lv_iconst (v := (0 : Int32)) hx hb dX7_least_23 (by decide) ?_
      refine lv_istore (lv' := [(5, .int (0 : Int32)), (4, .int (10 : Int32)), (3, .int (-9 : Int32)), (0, .ref oX), (1, .int a1), (2, .int a2)]) hx hb dX7_least_24 hl (by decide) rfl (fun ls hl => ?_)
      obtain ⟨y19, h20, hm⟩ := jb_out hm
      refine wX7_least_L26 hx hb hml hown hts hK hP hR n _ _ _ _  h20 ls (lv_sub hl [3, 4, 5, 2, 1, 0] rfl) (fun ls hl => ?_)
      refine lv_iload_n hx hb dX7_least_85 rfl (lv_at hl 0 rfl) ?_
      have hm := Option.some.inj hm
      subst hm
      exact K 86 ls dX7_least_86
    · rw [if_pos c4] at hm
      refine lv_iconst (v := (-1 : Int32)) hx hb dX7_least_14 (by decide) ?_
      have hm := Option.some.inj hm
      subst hm
      exact K 15 ls dX7_least_15
set_option maxHeartbeats 4000000 in
set_option maxRecDepth 100000 in
theorem tX7_least (l : Launch) {D : va_G} {n : Nat} {a1 : Int32} {a2 : Int32} {r : Int32} (hm : mX7_least n fra fst xpi a1 a2 = some r) : Met l yX7_least (.code yX7_least cX7_least 6 (some .int) :: tw) ({ frames := 2, cells := 0, slots := 0, locals := 52 } : Room) (rdP D [.ref oX, .int a1, .int a2] (wdX cJ cG cI oX oXp oXg oG0 oGa0 oG1 oGa1 oG2 oGa2 oQ oQw oI oR oRh oRm oB oBw oS oSs oF oFr oFs oFc oFw xpi gs0 ga0 gs1 ga1 gs2 ga2 qln qwy ijn rsz rhi rmi bsz bfi bla bar bwi srim sst fw fc fwh fbo fra fst fco fro) [(cI, .int), (cJ, .long), (cG, .object "WornShapes$Program")]) (vp_Si (fun q => q = r)) 0 0 (fun _ => False) := by
  refine Met.ofW (cc := cX7_least) (maxL := 6) (ret := (some .int)) (by decide) rfl ?_
  intro p e s m args below meth c s₁ B hml hv
  obtain ⟨rfl, hP, hK⟩ := hv
  have hx := B.exec
  have hb := B.bytes
  have hr := B.returns
  have hts : ∀ w ∈ tw, w.before _ s = true := fun w h => atoms_spec (ws := .code yX7_least cX7_least 6 (some .int) :: tw) B.pre w (List.mem_cons_of_mem _ h)
  have hown : s.vm.findClass RX7 = some m.cls := findClass_of_methodNamed B.named
  have hlocks := B.notSynchronized
  have hl := lv_entry ([.ref oX, .int a1, .int a2]) (n := 6) (Nat.le_of_ble_eq_true rfl)
  rw [lg_entry_eq]
  generalize (lg_sl ([.ref oX, .int a1, .int a2]) ++ List.replicate (6 - (lg_sl ([.ref oX, .int a1, .int a2])).length) Slot.unset).toArray = ls at hl ⊢
  refine bX7_least hx hb hml hown hts hK hP ⟨Nat.le_of_ble_eq_true rfl, Nat.le_of_ble_eq_true rfl, Nat.zero_le _, Nat.zero_le _⟩ hm ls hl (fun pc ls hd => ?_)
  exact W.iret hx hb hr (fun t ht hW => ⟨r, rfl, rfl, ht⟩) (fun q h => by cases h) hd
set_option maxHeartbeats 4000000 in
set_option maxRecDepth 100000 in
theorem kX7_least {own : String} {cc : ByteArray} {nL idx pc : Nat} {ls : Array Slot} {rest : List Value} {n : Nat} {a1 : Int32} {a2 : Int32} {r : Int32} (fx : CallFix p m c cc nL s args tw own) (hq : Cond.methodLink own idx yX7_least ∈ tw) (hP : va_P D vwCl (wdX cJ cG cI oX oXp oXg oG0 oGa0 oG1 oGa1 oG2 oGa2 oQ oQw oI oR oRh oRm oB oBw oS oSs oF oFr oFs oFc oFw xpi gs0 ga0 gs1 ga1 gs2 ga2 qln qwy ijn rsz rhi rmi bsz bfi bla bar bwi srim sst fw fc fwh fbo fra fst fco fro) H) (hK : va_K D vwCl [(cI, .int), (cJ, .long), (cG, .object "WornShapes$Program")] s) (hm : mX7_least n fra fst xpi a1 a2 = some r) (hsz : ls.size = nL) (hR : 3 ≤ R.frames ∧ 77 ≤ R.locals ∧ cells ≤ R.cells ∧ slots ≤ R.slots) (hst : (rest.map fun v => v.category).sum ≤ 8) (hd : decode cc pc = .ok (.invokevirtual idx, 3)) (kk : W p l e R s m args below meth c H locs cells slots Q (F0 m (pc + 3) ls (.int r :: rest))) : W p l e R s m args below meth c H locs cells slots Q (F0 m pc ls (.int a2 :: .int a1 :: .ref oX :: rest)) := by
  exact vp_callSi (va_Run.run (va_runV (As := [.int a1, .int a2]) (rest := rest) fx (tX7_least l hm) (cwV 2 fx.2.2.2.2 (tw_V hq qw_346 qw_347 qw_288 qw_348) rfl rfl rfl (by decide +kernel) ⟨hR.1, hR.2.1⟩) ⟨rdP_bl, va_recv hK hP (ci := 7) (q0 := 0) rfl rfl, rdP_ok hP hK⟩ rfl rfl hsz rfl (lv_room hst) hd ⟨hR.2.2.1, hR.2.2.2⟩)) (fun r9 hr9 => by first | (rw [hr9]; exact kk) | (rw [hr9.1]; exact kk))
end
