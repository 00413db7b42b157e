theorem qw_181 : Cond.static yX6_isStamp ∈ tw := tw_of (by decide +kernel) rfl
theorem qw_182 : Cond.initialized RX6 ∈ tw := tw_of (by decide +kernel) rfl
theorem qw_183 : Cond.code yX6_isStamp cX6_isStamp 1 (some .boolean) ∈ tw := tw_of (by decide +kernel) rfl
theorem qw_184 : Cond.methodLink RX6 21 yX6_isStamp ∈ tw := tw_of (by decide +kernel) rfl
theorem qw_185 : Cond.static yX6_isAct ∈ tw := tw_of (by decide +kernel) rfl
theorem qw_186 : Cond.code yX6_isAct cX6_isAct 1 (some .boolean) ∈ tw := tw_of (by decide +kernel) rfl
theorem qw_187 : Cond.fieldLink RX6 17 "WornShapes$Stamps" "plane" "LWornShapes$Field;" ∈ tw := tw_of (by decide +kernel) rfl
theorem qw_188 : Cond.fieldLink RX6 9 "WornShapes$Stamps" "steps" "[I" ∈ tw := tw_of (by decide +kernel) rfl
theorem qw_189 : Cond.fieldLink RX6 13 "WornShapes$Stamps" "rim" "Z" ∈ tw := tw_of (by decide +kernel) rfl
theorem qw_190 : Cond.methodLink RX6 25 yX1_worn ∈ tw := tw_of (by decide +kernel) rfl
theorem qw_191 : Cond.instanceMethod yX6_wornBy ∈ tw := tw_of (by decide +kernel) rfl
theorem qw_192 : Cond.selects RX6 yX6_wornBy yX6_wornBy ∈ tw := tw_of (by decide +kernel) rfl
theorem qw_193 : Cond.code yX6_wornBy cX6_wornBy 4 (some .long) ∈ tw := tw_of (by decide +kernel) rfl
theorem qw_194 : Cond.methodLink RX6 31 yX1_grown ∈ tw := tw_of (by decide +kernel) rfl
theorem qw_195 : Cond.instanceMethod yX6_grownBy ∈ tw := tw_of (by decide +kernel) rfl
theorem qw_196 : Cond.selects RX6 yX6_grownBy yX6_grownBy ∈ tw := tw_of (by decide +kernel) rfl
theorem qw_197 : Cond.code yX6_grownBy cX6_grownBy 4 (some .long) ∈ tw := tw_of (by decide +kernel) rfl
theorem qw_198 : Cond.methodLink RX6 35 yX6_grownBy ∈ tw := tw_of (by decide +kernel) rfl
theorem qw_199 : Cond.methodLink RX6 38 yX6_wornBy ∈ tw := tw_of (by decide +kernel) rfl
theorem qw_200 : Cond.fieldLink RX6 41 "WornShapes$Field" "whole" "J" ∈ tw := tw_of (by decide +kernel) rfl
theorem qw_201 : Cond.constantLong RX6 45 (-1) ∈ tw := tw_of (by decide +kernel) rfl
theorem qw_202 : Cond.instanceMethod yX6_made ∈ tw := tw_of (by decide +kernel) rfl
theorem qw_203 : Cond.selects RX6 yX6_made yX6_made ∈ tw := tw_of (by decide +kernel) rfl
theorem qw_204 : Cond.code yX6_made cX6_made 5 (some .long) ∈ tw := tw_of (by decide +kernel) rfl
theorem qw_205 : Cond.fieldLink RX4 13 "WornShapes$Program" "size" "I" ∈ tw := tw_of (by decide +kernel) rfl
theorem qw_206 : Cond.fieldLink RX4 17 "WornShapes$Program" "stamps" "LWornShapes$Stamps;" ∈ tw := tw_of (by decide +kernel) rfl
theorem qw_207 : Cond.fieldLink RX4 9 "WornShapes$Program" "acts" "[I" ∈ tw := tw_of (by decide +kernel) rfl
theorem qw_208 : Cond.methodLink RX4 21 yX6_made ∈ tw := tw_of (by decide +kernel) rfl
theorem qw_209 : Cond.instanceMethod yX4_madeOf ∈ tw := tw_of (by decide +kernel) rfl
theorem qw_210 : Cond.selects RX4 yX4_madeOf yX4_madeOf ∈ tw := tw_of (by decide +kernel) rfl
theorem qw_211 : Cond.initialized RX4 ∈ tw := tw_of (by decide +kernel) rfl
theorem qw_212 : Cond.code yX4_madeOf cX4_madeOf 6 (some .long) ∈ tw := tw_of (by decide +kernel) rfl
theorem qw_213 : Cond.fieldLink RX3 9 "WornShapes$Pieces" "join" "I" ∈ tw := tw_of (by decide +kernel) rfl
theorem qw_214 : Cond.instanceMethod yX3_otherJoin ∈ tw := tw_of (by decide +kernel) rfl
theorem qw_215 : Cond.selects RX3 yX3_otherJoin yX3_otherJoin ∈ tw := tw_of (by decide +kernel) rfl
theorem qw_216 : Cond.initialized RX3 ∈ tw := tw_of (by decide +kernel) rfl
theorem qw_217 : Cond.code yX3_otherJoin cX3_otherJoin 1 (some .int) ∈ tw := tw_of (by decide +kernel) rfl
theorem qw_218 : Cond.fieldLink RX3 13 "WornShapes$Pieces" "plane" "LWornShapes$Field;" ∈ tw := tw_of (by decide +kernel) rfl
theorem qw_219 : Cond.fieldLink RX3 44 "WornShapes$Field" "cells" "I" ∈ tw := tw_of (by decide +kernel) rfl
theorem qw_220 : Cond.methodLink RX3 47 yX1_grown ∈ tw := tw_of (by decide +kernel) rfl
theorem qw_221 : Cond.instanceMethod yX3_spread ∈ tw := tw_of (by decide +kernel) rfl
theorem qw_222 : Cond.selects RX3 yX3_spread yX3_spread ∈ tw := tw_of (by decide +kernel) rfl
theorem qw_223 : Cond.code yX3_spread cX3_spread 12 (some .long) ∈ tw := tw_of (by decide +kernel) rfl
theorem qw_224 : Cond.methodLink RX3 17 yX3_spread ∈ tw := tw_of (by decide +kernel) rfl
theorem qw_225 : Cond.instanceMethod yX3_around ∈ tw := tw_of (by decide +kernel) rfl
theorem qw_226 : Cond.selects RX3 yX3_around yX3_around ∈ tw := tw_of (by decide +kernel) rfl
theorem qw_227 : Cond.code yX3_around cX3_around 4 (some .long) ∈ tw := tw_of (by decide +kernel) rfl
theorem qw_228 : Cond.constantLong RX3 39 (-1) ∈ tw := tw_of (by decide +kernel) rfl
theorem qw_229 : Cond.instanceMethod yX3_howManyBy ∈ tw := tw_of (by decide +kernel) rfl
theorem qw_230 : Cond.selects RX3 yX3_howManyBy yX3_howManyBy ∈ tw := tw_of (by decide +kernel) rfl
theorem qw_231 : Cond.code yX3_howManyBy cX3_howManyBy 8 (some .int) ∈ tw := tw_of (by decide +kernel) rfl
theorem qw_232 : Cond.methodLink RX3 21 yX3_howManyBy ∈ tw := tw_of (by decide +kernel) rfl
theorem qw_233 : Cond.instanceMethod yX3_howMany ∈ tw := tw_of (by decide +kernel) rfl
theorem qw_234 : Cond.selects RX3 yX3_howMany yX3_howMany ∈ tw := tw_of (by decide +kernel) rfl
theorem qw_235 : Cond.code yX3_howMany cX3_howMany 3 (some .int) ∈ tw := tw_of (by decide +kernel) rfl
theorem qw_236 : Cond.fieldLink RX3 33 "WornShapes$Field" "whole" "J" ∈ tw := tw_of (by decide +kernel) rfl
theorem qw_237 : Cond.fieldLink RX3 41 "WornShapes$Field" "border" "J" ∈ tw := tw_of (by decide +kernel) rfl
theorem qw_238 : Cond.methodLink RX3 25 yX3_otherJoin ∈ tw := tw_of (by decide +kernel) rfl
theorem qw_239 : Cond.instanceMethod yX3_holesOf ∈ tw := tw_of (by decide +kernel) rfl
theorem qw_240 : Cond.selects RX3 yX3_holesOf yX3_holesOf ∈ tw := tw_of (by decide +kernel) rfl
theorem qw_241 : Cond.code yX3_holesOf cX3_holesOf 5 (some .long) ∈ tw := tw_of (by decide +kernel) rfl
theorem qw_242 : Cond.methodLink RX3 29 yX3_holesOf ∈ tw := tw_of (by decide +kernel) rfl
theorem qw_243 : Cond.instanceMethod yX3_howManyHoles ∈ tw := tw_of (by decide +kernel) rfl
theorem qw_244 : Cond.selects RX3 yX3_howManyHoles yX3_howManyHoles ∈ tw := tw_of (by decide +kernel) rfl
theorem qw_245 : Cond.code yX3_howManyHoles cX3_howManyHoles 3 (some .int) ∈ tw := tw_of (by decide +kernel) rfl
theorem qw_246 : Cond.fieldLink RX2 24 "WornShapes$Pairs" "stamps" "LWornShapes$Stamps;" ∈ tw := tw_of (by decide +kernel) rfl
theorem qw_247 : Cond.fieldLink RX2 28 "WornShapes$Stamps" "steps" "[I" ∈ tw := tw_of (by decide +kernel) rfl
theorem qw_248 : Cond.fieldLink RX2 9 "WornShapes$Pairs" "hit" "[I" ∈ tw := tw_of (by decide +kernel) rfl
theorem qw_249 : Cond.fieldLink RX2 13 "WornShapes$Pairs" "miss" "[I" ∈ tw := tw_of (by decide +kernel) rfl
theorem qw_250 : Cond.fieldLink RX2 20 "WornShapes$Pairs" "plane" "LWornShapes$Field;" ∈ tw := tw_of (by decide +kernel) rfl
theorem qw_251 : Cond.methodLink RX2 35 yX1_behind ∈ tw := tw_of (by decide +kernel) rfl
theorem qw_252 : Cond.constantLong RX2 39 (-1) ∈ tw := tw_of (by decide +kernel) rfl
theorem qw_253 : Cond.instanceMethod yX2_hitIn ∈ tw := tw_of (by decide +kernel) rfl
theorem qw_254 : Cond.selects RX2 yX2_hitIn yX2_hitIn ∈ tw := tw_of (by decide +kernel) rfl
theorem qw_255 : Cond.initialized RX2 ∈ tw := tw_of (by decide +kernel) rfl
theorem qw_256 : Cond.code yX2_hitIn cX2_hitIn 11 (some .long) ∈ tw := tw_of (by decide +kernel) rfl
theorem qw_257 : Cond.fieldLink RX2 16 "WornShapes$Pairs" "size" "I" ∈ tw := tw_of (by decide +kernel) rfl
theorem qw_258 : Cond.methodLink RX2 41 yX2_hitIn ∈ tw := tw_of (by decide +kernel) rfl
theorem qw_259 : Cond.instanceMethod yX2_afterRound ∈ tw := tw_of (by decide +kernel) rfl
theorem qw_260 : Cond.selects RX2 yX2_afterRound yX2_afterRound ∈ tw := tw_of (by decide +kernel) rfl
theorem qw_261 : Cond.code yX2_afterRound cX2_afterRound 6 (some .long) ∈ tw := tw_of (by decide +kernel) rfl
section
variable {A : Nat → Prop} {p : Program} {l : Launch} {e : Env} {R : Room} {s : State} {m : MethodId} {args : Array Value} {below : List Frame} {meth : Method} {c : Code} {H : Heap} {locs : List Loc} {cells slots : Nat} {Q : State → Prop} {D : va_G} {oF : Nat} {oFr : Nat} {oFs : Nat} {oFc : Nat} {oFw : Nat} {oS : Nat} {oSs : Nat} {oG : Nat} {oGa : Nat} {oQ : Nat} {oQw : Nat} {oI : Nat} {oR : Nat} {oRh : Nat} {oRm : Nat} {oB : Nat} {oBw : Nat} {oX : Nat} {oXp : Nat} {oXg : Nat} {oG0 : Nat} {oGa0 : Nat} {oG1 : Nat} {oGa1 : Nat} {oG2 : Nat} {oGa2 : Nat} {oM : Nat} {oM1 : Nat} {oM2 : Nat} {oM3 : Nat} {oM4 : Nat} {oM5 : Nat} {oM6 : Nat} {oM7 : Nat} {oM8 : Nat} {oM9 : Nat} {oM10 : Nat} {oM11 : Nat} {tS : Nat} {tA : Nat} {cI : ClassId} {cJ : ClassId} {cG : ClassId} {fw : Int32} {fc : Int32} {fwh : Int64} {fbo : Int64} {fra : Nat → Int32} {fco : Nat → Int32} {fro : Nat → Int32} {fst : Nat → Int64} {srim : Int32} {sst : Nat → Int32} {gsz : Int32} {gac : Nat → Int32} {qln : Int32} {qwy : Nat → Int32} {ijn : Int32} {rsz : Int32} {rhi : Nat → Int32} {rmi : Nat → Int32} {bsz : Int32} {bfi : Int32} {bla : Int32} {bar : Int32} {bwi : Nat → Int64} {xpi : Nat → Int64} {gs0 : Int32} {gs1 : Int32} {gs2 : Int32} {ga0 : Nat → Int32} {ga1 : Nat → Int32} {ga2 : Nat → Int32} {mw : Int32} {mt : Int32} {mrim : Int32} {mjn : Int32} {mhm : Int32} {mpn : Int32} {mbm : Int32} {mgm : Int32} {mpi : Nat → Int64} {mbe : Nat → Int64} {mgr : Nat → Int64} {mle : Nat → Int64} {mst : Nat → Int32} {mam : Nat → Int32} {mac : Nat → Int32} {mro : Nat → Int32} {mhi : Nat → Int32} {mmi : Nat → Int32} {mtr : Nat → Int32}
-- X6_isStamp
def mX6_isStamp (a0 : Int32) : Int32 :=
  (if a0 < 0 then (0 : Int32) else (if (4 : Int32) ≤ a0 then (0 : Int32) else (1 : Int32)))
theorem dX6_isStamp_0 : decode cX6_isStamp 0 = .ok (.iload_n 0, 1) := by decide +kernel
theorem dX6_isStamp_1 : decode cX6_isStamp 1 = .ok (.ifCond .lt 12, 3) := by decide +kernel
theorem dX6_isStamp_4 : decode cX6_isStamp 4 = .ok (.iload_n 0, 1) := by decide +kernel
theorem dX6_isStamp_5 : decode cX6_isStamp 5 = .ok (.iconst 4, 1) := by decide +kernel
theorem dX6_isStamp_6 : decode cX6_isStamp 6 = .ok (.if_icmp .ge 7, 3) := by decide +kernel
theorem dX6_isStamp_9 : decode cX6_isStamp 9 = .ok (.iconst 1, 1) := by decide +kernel
theorem dX6_isStamp_10 : decode cX6_isStamp 10 = .ok (.goto 4, 3) := by decide +kernel
theorem dX6_isStamp_13 : decode cX6_isStamp 13 = .ok (.iconst 0, 1) := by decide +kernel
theorem dX6_isStamp_14 : decode cX6_isStamp 14 = .ok (.ireturn, 1) := by decide +kernel
set_option maxHeartbeats 4000000 in
set_option maxRecDepth 100000 in
theorem bX6_isStamp {a0 : Int32} {r : Int32} (hx : p.tables.exec = Jvm.exec) (hb : c.code = cX6_isStamp) (hml : c.maxLocals = 1) (hown : s.vm.findClass RX6 = some m.cls) (hts : ∀ w ∈ tw, w.before args s = true) (hR : 0 ≤ R.frames ∧ 0 ≤ R.locals ∧ cells ≤ R.cells ∧ slots ≤ R.slots) (hm : mX6_isStamp a0 = r) (ls : Array Slot) (hl : lv_has ls 1 [(0, .int a0)]) (K : ∀ (pc : Nat) (ls : Array Slot), decode cX6_isStamp pc = .ok (.ireturn, 1) → narrow .boolean (.int r) = .int r → W p l e R s m args below meth c H locs cells slots Q (F0 m pc ls [.int r])) : W p l e R s m args below meth c H locs cells slots Q (F0 m 0 ls []) := by
  unfold mX6_isStamp at hm
  refine lv_iload_n hx hb dX6_isStamp_0 rfl (lv_at hl 0 rfl) ?_
  refine lv_if_lt (tgt := 13) hx hb dX6_isStamp_1 (by decide) (fun c1 => ?_) (fun c1 => ?_)
  · rw [if_pos c1] at hm
    refine lv_iconst (v := (0 : Int32)) hx hb dX6_isStamp_13 (by decide) ?_
    subst hm
    exact K 14 ls dX6_isStamp_14 rfl
  · rw [if_neg c1] at hm
    refine lv_iload_n hx hb dX6_isStamp_4 rfl (lv_at hl 0 rfl) ?_
    refine lv_iconst (v := (4 : Int32)) hx hb dX6_isStamp_5 (by decide) ?_
    refine lv_icmp_ge (tgt := 13) hx hb dX6_isStamp_6 (by decide) (fun c2 => ?_) (fun c2 => ?_)
    · rw [if_pos c2] at hm
      refine lv_iconst (v := (0 : Int32)) hx hb dX6_isStamp_13 (by decide) ?_
      subst hm
      exact K 14 ls dX6_isStamp_14 rfl
    · rw [if_neg c2] at hm
      refine lv_iconst (v := (1 : Int32)) hx hb dX6_isStamp_9 (by decide) ?_
      refine lv_goto (tgt := 14) hx hb dX6_isStamp_10 (by decide) ?_
      subst hm
      exact K 14 ls dX6_isStamp_14 rfl
set_option maxHeartbeats 4000000 in
set_option maxRecDepth 100000 in
theorem tX6_isStamp (l : Launch) {a0 : Int32} {r : Int32} (hm : mX6_isStamp a0 = r) : Met l yX6_isStamp (.code yX6_isStamp cX6_isStamp 1 (some .boolean) :: tw) ({ frames := 0, cells := 0, slots := 0, locals := 0 } : Room) (va_Pc [.int a0] (fun _ => True)) (vp_Si (fun q => q = r ∧ narrow .boolean (.int q) = .int q)) 0 0 (fun _ => False) := by
  refine Met.ofW (cc := cX6_isStamp) (maxL := 1) (ret := (some .boolean)) (by decide) rfl ?_
  intro p e s m args below meth c s₁ B hml hv
  obtain ⟨rfl, -⟩ := hv
  have hx := B.exec
  have hb := B.bytes
  have hr := B.returns
  have hts : ∀ w ∈ tw, w.before _ s = true := fun w h => atoms_spec (ws := .code yX6_isStamp cX6_isStamp 1 (some .boolean) :: tw) B.pre w (List.mem_cons_of_mem _ h)
  have hown : s.vm.findClass RX6 = some m.cls := findClass_of_methodNamed B.named
  have hlocks := B.notSynchronized
  have hl := lv_entry ([.int a0]) (n := 1) (Nat.le_of_ble_eq_true rfl)
  rw [lg_entry_eq]
  generalize (lg_sl ([.int a0]) ++ List.replicate (1 - (lg_sl ([.int a0])).length) Slot.unset).toArray = ls at hl ⊢
  refine bX6_isStamp hx hb hml hown hts ⟨Nat.le_of_ble_eq_true rfl, Nat.le_of_ble_eq_true rfl, Nat.zero_le _, Nat.zero_le _⟩ hm ls hl (fun pc ls hd hz => ?_)
  exact W.zret hx hb hr hz (fun t ht hW => ⟨r, rfl, ⟨rfl, hz⟩, ht⟩) (fun q h => by cases h) hd
set_option maxHeartbeats 4000000 in
set_option maxRecDepth 100000 in
theorem kX6_isStamp {own : String} {cc : ByteArray} {nL idx pc : Nat} {ls : Array Slot} {rest : List Value} {a0 : Int32} (fx : CallFix p m c cc nL s args tw own) (hq : Cond.methodLink own idx yX6_isStamp ∈ tw) (hsz : ls.size = nL) (hR : 1 ≤ R.frames ∧ 20 ≤ R.locals ∧ cells ≤ R.cells ∧ slots ≤ R.slots) (hst : (rest.map fun v => v.category).sum ≤ 8) (hd : decode cc pc = .ok (.invokestatic idx, 3)) (kk : W p l e R s m args below meth c H locs cells slots Q (F0 m (pc + 3) ls (.int (mX6_isStamp a0) :: rest))) : W p l e R s m args below meth c H locs cells slots Q (F0 m pc ls (.int a0 :: rest)) := by
  exact vp_callSi (va_Run.run (va_runS (As := [.int a0]) (rest := rest) fx (tX6_isStamp l rfl) (va_cwS 1 fx.2.2.2.2 (tw_S2 hq qw_181 qw_182 qw_183) rfl rfl rfl (by decide +kernel) ⟨hR.1, hR.2.1⟩) ⟨fun a U g mk q => q, fun U hU hW => ⟨rfl, trivial⟩⟩ rfl rfl hsz rfl (lv_room hst) hd ⟨hR.2.2.1, hR.2.2.2⟩)) (fun r9 hr9 => by first | (rw [hr9]; exact kk) | (rw [hr9.1]; exact kk))
-- X6_isAct
def mX6_isAct (a0 : Int32) : Int32 :=
  (if a0 = (40 : Int32) then (1 : Int32) else (if a0 < 0 then (0 : Int32) else (if (40 : Int32) ≤ a0 then (0 : Int32) else (if (mX6_isStamp (jrem a0 (10 : Int32))) = 0 then (0 : Int32) else (1 : Int32)))))
theorem dX6_isAct_0 : decode cX6_isAct 0 = .ok (.iload_n 0, 1) := by decide +kernel
theorem dX6_isAct_1 : decode cX6_isAct 1 = .ok (.bipush 40, 2) := by decide +kernel
theorem dX6_isAct_3 : decode cX6_isAct 3 = .ok (.if_icmp .eq 23, 3) := by decide +kernel
theorem dX6_isAct_6 : decode cX6_isAct 6 = .ok (.iload_n 0, 1) := by decide +kernel
theorem dX6_isAct_7 : decode cX6_isAct 7 = .ok (.ifCond .lt 23, 3) := by decide +kernel
theorem dX6_isAct_10 : decode cX6_isAct 10 = .ok (.iload_n 0, 1) := by decide +kernel
theorem dX6_isAct_11 : decode cX6_isAct 11 = .ok (.bipush 40, 2) := by decide +kernel
theorem dX6_isAct_13 : decode cX6_isAct 13 = .ok (.if_icmp .ge 17, 3) := by decide +kernel
theorem dX6_isAct_16 : decode cX6_isAct 16 = .ok (.iload_n 0, 1) := by decide +kernel
theorem dX6_isAct_17 : decode cX6_isAct 17 = .ok (.bipush 10, 2) := by decide +kernel
theorem dX6_isAct_19 : decode cX6_isAct 19 = .ok (.irem, 1) := by decide +kernel
theorem dX6_isAct_20 : decode cX6_isAct 20 = .ok (.invokestatic 21, 3) := by decide +kernel
theorem dX6_isAct_23 : decode cX6_isAct 23 = .ok (.ifCond .eq 7, 3) := by decide +kernel
theorem dX6_isAct_26 : decode cX6_isAct 26 = .ok (.iconst 1, 1) := by decide +kernel
theorem dX6_isAct_27 : decode cX6_isAct 27 = .ok (.goto 4, 3) := by decide +kernel
theorem dX6_isAct_30 : decode cX6_isAct 30 = .ok (.iconst 0, 1) := by decide +kernel
theorem dX6_isAct_31 : decode cX6_isAct 31 = .ok (.ireturn, 1) := by decide +kernel
set_option maxHeartbeats 4000000 in
set_option maxRecDepth 100000 in
theorem bX6_isAct {a0 : Int32} {r : Int32} (hx : p.tables.exec = Jvm.exec) (hb : c.code = cX6_isAct) (hml : c.maxLocals = 1) (hown : s.vm.findClass RX6 = some m.cls) (hts : ∀ w ∈ tw, w.before args s = true) (hR : 1 ≤ R.frames ∧ 20 ≤ R.locals ∧ cells ≤ R.cells ∧ slots ≤ R.slots) (hm : mX6_isAct a0 = r) (ls : Array Slot) (hl : lv_has ls 1 [(0, .int a0)]) (K : ∀ (pc : Nat) (ls : Array Slot), decode cX6_isAct pc = .ok (.ireturn, 1) → narrow .boolean (.int r) = .int r → W p l e R s m args below meth c H locs cells slots Q (F0 m pc ls [.int r])) : W p l e R s m args below meth c H locs cells slots Q (F0 m 0 ls []) := by
  unfold mX6_isAct at hm
  refine lv_iload_n hx hb dX6_isAct_0 rfl (lv_at hl 0 rfl) ?_
  refine lv_bipush (v := (40 : Int32)) hx hb dX6_isAct_1 (by decide) ?_
  refine lv_icmp_eq (tgt := 26) hx hb dX6_isAct_3 (by decide) (fun c1 => ?_) (fun c1 => ?_)
  · rw [if_pos c1] at hm
    refine lv_iconst (v := (1 : Int32)) hx hb dX6_isAct_26 (by decide) ?_
    refine lv_goto (tgt := 31) hx hb dX6_isAct_27 (by decide) ?_
    subst hm
    exact K 31 ls dX6_isAct_31 rfl
  · rw [if_neg c1] at hm
    refine lv_iload_n hx hb dX6_isAct_6 rfl (lv_at hl 0 rfl) ?_
    refine lv_if_lt (tgt := 30) hx hb dX6_isAct_7 (by decide) (fun c2 => ?_) (fun c2 => ?_)
    · rw [if_pos c2] at hm
      refine lv_iconst (v := (0 : Int32)) hx hb dX6_isAct_30 (by decide) ?_
      subst hm
      exact K 31 ls dX6_isAct_31 rfl
    · rw [if_neg c2] at hm
      refine lv_iload_n hx hb dX6_isAct_10 rfl (lv_at hl 0 rfl) ?_
      refine lv_bipush (v := (40 : Int32)) hx hb dX6_isAct_11 (by decide) ?_
      refine lv_icmp_ge (tgt := 30) hx hb dX6_isAct_13 (by decide) (fun c3 => ?_) (fun c3 => ?_)
      · rw [if_pos c3] at hm
        refine lv_iconst (v := (0 : Int32)) hx hb dX6_isAct_30 (by decide) ?_
        subst hm
        exact K 31 ls dX6_isAct_31 rfl
      · rw [if_neg c3] at hm
        refine lv_iload_n hx hb dX6_isAct_16 rfl (lv_at hl 0 rfl) ?_
        refine lv_bipush (v := (10 : Int32)) hx hb dX6_isAct_17 (by decide) ?_
        refine lv_irem hx hb dX6_isAct_19 (by decide) ?_
        refine kX6_isStamp ⟨hx, hb, hml, hown, hts⟩ qw_184 hl.1 ⟨Nat.le_trans (by decide) hR.1, Nat.le_trans (by decide) hR.2.1, hR.2.2⟩ (Nat.le_of_ble_eq_true rfl) dX6_isAct_20 ?_
        refine lv_if_eq (tgt := 30) hx hb dX6_isAct_23 (by decide) (fun c5 => ?_) (fun c5 => ?_)
        · rw [if_pos c5] at hm
          refine lv_iconst (v := (0 : Int32)) hx hb dX6_isAct_30 (by decide) ?_
          subst hm
          exact K 31 ls dX6_isAct_31 rfl
        · rw [if_neg c5] at hm
          refine lv_iconst (v := (1 : Int32)) hx hb dX6_isAct_26 (by decide) ?_
          refine lv_goto (tgt := 31) hx hb dX6_isAct_27 (by decide) ?_
          subst hm
          exact K 31 ls dX6_isAct_31 rfl
set_option maxHeartbeats 4000000 in
set_option maxRecDepth 100000 in
theorem tX6_isAct (l : Launch) {a0 : Int32} {r : Int32} (hm : mX6_isAct a0 = r) : Met l yX6_isAct (.code yX6_isAct cX6_isAct 1 (some .boolean) :: tw) ({ frames := 1, cells := 0, slots := 0, locals := 20 } : Room) (va_Pc [.int a0] (fun _ => True)) (vp_Si (fun q => q = r ∧ narrow .boolean (.int q) = .int q)) 0 0 (fun _ => False) := by
  refine Met.ofW (cc := cX6_isAct) (maxL := 1) (ret := (some .boolean)) (by decide) rfl ?_
  intro p e s m args below meth c s₁ B hml hv
  obtain ⟨rfl, -⟩ := hv
  have hx := B.exec
  have hb := B.bytes
  have hr := B.returns
  have hts : ∀ w ∈ tw, w.before _ s = true := fun w h => atoms_spec (ws := .code yX6_isAct cX6_isAct 1 (some .boolean) :: tw) B.pre w (List.mem_cons_of_mem _ h)
  have hown : s.vm.findClass RX6 = some m.cls := findClass_of_methodNamed B.named
  have hlocks := B.notSynchronized
  have hl := lv_entry ([.int a0]) (n := 1) (Nat.le_of_ble_eq_true rfl)
  rw [lg_entry_eq]
  generalize (lg_sl ([.int a0]) ++ List.replicate (1 - (lg_sl ([.int a0])).length) Slot.unset).toArray = ls at hl ⊢
  refine bX6_isAct hx hb hml hown hts ⟨Nat.le_of_ble_eq_true rfl, Nat.le_of_ble_eq_true rfl, Nat.zero_le _, Nat.zero_le _⟩ hm ls hl (fun pc ls hd hz => ?_)
  exact W.zret hx hb hr hz (fun t ht hW => ⟨r, rfl, ⟨rfl, hz⟩, ht⟩) (fun q h => by cases h) hd
set_option maxHeartbeats 4000000 in
set_option maxRecDepth 100000 in
theorem kX6_isAct {own : String} {cc : ByteArray} {nL idx pc : Nat} {ls : Array Slot} {rest : List Value} {a0 : Int32} (fx : CallFix p m c cc nL s args tw own) (hq : Cond.methodLink own idx yX6_isAct ∈ tw) (hsz : ls.size = nL) (hR : 2 ≤ R.frames ∧ 40 ≤ R.locals ∧ cells ≤ R.cells ∧ slots ≤ R.slots) (hst : (rest.map fun v => v.category).sum ≤ 8) (hd : decode cc pc = .ok (.invokestatic idx, 3)) (kk : W p l e R s m args below meth c H locs cells slots Q (F0 m (pc + 3) ls (.int (mX6_isAct a0) :: rest))) : W p l e R s m args below meth c H locs cells slots Q (F0 m pc ls (.int a0 :: rest)) := by
  exact vp_callSi (va_Run.run (va_runS (As := [.int a0]) (rest := rest) fx (tX6_isAct l rfl) (va_cwS 1 fx.2.2.2.2 (tw_S2 hq qw_185 qw_182 qw_186) rfl rfl rfl (by decide +kernel) ⟨hR.1, hR.2.1⟩) ⟨fun a U g mk q => q, fun U hU hW => ⟨rfl, trivial⟩⟩ rfl rfl hsz rfl (lv_room hst) hd ⟨hR.2.2.1, hR.2.2.2⟩)) (fun r9 hr9 => by first | (rw [hr9]; exact kk) | (rw [hr9.1]; exact kk))
-- X6_wornBy
def mX6_wornBy (n : Nat) (fra : Nat → Int32) (fst : Nat → Int64) (fwh : Int64) (sst : Nat → Int32) (srim : Int32) (a1 : Int64) (a3 : Int32) : Option Int64 :=
  gd (ib a3 4) (jb (mX1_worn n fra fst fwh a1 (sst a3.toNatClampNeg) srim) (fun (r2 : Int64) => (some r2)))
theorem dX6_wornBy_0 : decode cX6_wornBy 0 = .ok (.aload_n 0, 1) := by decide +kernel
theorem dX6_wornBy_1 : decode cX6_wornBy 1 = .ok (.getfield 17, 3) := by decide +kernel
theorem dX6_wornBy_4 : decode cX6_wornBy 4 = .ok (.lload_n 1, 1) := by decide +kernel
theorem dX6_wornBy_5 : decode cX6_wornBy 5 = .ok (.aload_n 0, 1) := by decide +kernel
theorem dX6_wornBy_6 : decode cX6_wornBy 6 = .ok (.getfield 9, 3) := by decide +kernel
theorem dX6_wornBy_9 : decode cX6_wornBy 9 = .ok (.iload_n 3, 1) := by decide +kernel
theorem dX6_wornBy_10 : decode cX6_wornBy 10 = .ok (.iaload, 1) := by decide +kernel
theorem dX6_wornBy_11 : decode cX6_wornBy 11 = .ok (.aload_n 0, 1) := by decide +kernel
theorem dX6_wornBy_12 : decode cX6_wornBy 12 = .ok (.getfield 13, 3) := by decide +kernel
theorem dX6_wornBy_15 : decode cX6_wornBy 15 = .ok (.invokevirtual 25, 3) := by decide +kernel
theorem dX6_wornBy_18 : decode cX6_wornBy 18 = .ok (.lreturn, 1) := by decide +kernel
set_option maxHeartbeats 4000000 in
set_option maxRecDepth 100000 in
theorem bX6_wornBy {n : Nat} {a1 : Int64} {a3 : Int32} {r : Int64} (hx : p.tables.exec = Jvm.exec) (hb : c.code = cX6_wornBy) (hml : c.maxLocals = 4) (hown : s.vm.findClass RX6 = some m.cls) (hts : ∀ w ∈ tw, w.before args s = true) (hK : va_K D vwCl [(cI, .int), (cJ, .long)] s) (hP : va_P D vwCl (wdS cI cJ oS oSs oF oFr oFs oFc oFw srim sst fw fc fwh fbo fra fst fco fro) H) (hR : 2 ≤ R.frames ∧ 51 ≤ R.locals ∧ cells ≤ R.cells ∧ slots ≤ R.slots) (hm : mX6_wornBy n fra fst fwh sst srim a1 a3 = some r) (ls : Array Slot) (hl : lv_has ls 4 [(0, .ref oS), (1, .long a1), (3, .int a3)]) (K : ∀ (pc : Nat) (ls : Array Slot), decode cX6_wornBy pc = .ok (.lreturn, 1) → W p l e R s m args below meth c H locs cells slots Q (F0 m pc ls [.long r])) : W p l e R s m args below meth c H locs cells slots Q (F0 m 0 ls []) := by
  unfold mX6_wornBy at hm
  refine lv_aload_n hx hb dX6_wornBy_0 rfl (lv_at hl 0 rfl) ?_
  refine va_get (D := D) (ci := 6) (v := .ref oF) (C := RX6) (T := TX6) (N := 3) hx hb hts tnX6 hown hK hP 0 rfl rfl 0 (by decide) (hts _ qw_187) (fun _ h9 => h9) rfl dX6_wornBy_1 ?_
  refine lv_lload_n hx hb dX6_wornBy_4 rfl (lv_at hl 1 rfl) ?_
  refine lv_aload_n hx hb dX6_wornBy_5 rfl (lv_at hl 0 rfl) ?_
  refine va_get (D := D) (ci := 6) (v := .ref oSs) (C := RX6) (T := TX6) (N := 3) hx hb hts tnX6 hown hK hP 0 rfl rfl 1 (by decide) (hts _ qw_188) (fun _ h9 => h9) rfl dX6_wornBy_6 ?_
  refine lv_iload_n hx hb dX6_wornBy_9 rfl (lv_at hl 2 rfl) ?_
  obtain ⟨g1, hm⟩ := gd_out hm
  refine va_iald hx hb hK hP 1 0 rfl rfl g1 dX6_wornBy_10 ?_
  refine lv_aload_n hx hb dX6_wornBy_11 rfl (lv_at hl 0 rfl) ?_
  refine va_get (D := D) (ci := 6) (v := .int srim) (C := RX6) (T := TX6) (N := 3) hx hb hts tnX6 hown hK hP 0 rfl rfl 2 (by decide) (hts _ qw_189) (fun _ h9 => h9) rfl dX6_wornBy_12 ?_
  obtain ⟨r2, h3, hm⟩ := jb_out hm
  refine kX1_worn ⟨hx, hb, hml, hown, hts⟩ qw_190 (hP.sub (ws' := (wdF cI cJ oF oFr oFs oFc oFw fw fc fwh fbo fra fst fco fro)) [2, 3, 4, 5, 6] rfl) hK h3 hl.1 ⟨Nat.le_trans (by decide) hR.1, Nat.le_trans (by decide) hR.2.1, hR.2.2⟩ (Nat.le_of_ble_eq_true rfl) dX6_wornBy_15 ?_
  have hm := Option.some.inj hm
  subst hm
  exact K 18 ls dX6_wornBy_18
set_option maxHeartbeats 4000000 in
set_option maxRecDepth 100000 in
theorem tX6_wornBy (l : Launch) {D : va_G} {n : Nat} {a1 : Int64} {a3 : Int32} {r : Int64} (hm : mX6_wornBy n fra fst fwh sst srim a1 a3 = some r) : Met l yX6_wornBy (.code yX6_wornBy cX6_wornBy 4 (some .long) :: tw) ({ frames := 2, cells := 0, slots := 0, locals := 51 } : Room) (rdP D [.ref oS, .long a1, .int a3] (wdS cI cJ oS oSs oF oFr oFs oFc oFw srim sst fw fc fwh fbo fra fst fco fro) [(cI, .int), (cJ, .long)]) (vp_Sl (fun q => q = r)) 0 0 (fun _ => False) := by
  refine Met.ofW (cc := cX6_wornBy) (maxL := 4) (ret := (some .long)) (by decide) rfl ?_
  intro p e s m args below meth c s₁ B hml hv
  obtain ⟨rfl, hP, hK⟩ := hv
  have hx := B.exec
  have hb := B.bytes
  have hr := B.returns
  have hts : ∀ w ∈ tw, w.before _ s = true := fun w h => atoms_spec (ws := .code yX6_wornBy cX6_wornBy 4 (some .long) :: tw) B.pre w (List.mem_cons_of_mem _ h)
  have hown : s.vm.findClass RX6 = some m.cls := findClass_of_methodNamed B.named
  have hlocks := B.notSynchronized
  have hl := lv_entry ([.ref oS, .long a1, .int a3]) (n := 4) (Nat.le_of_ble_eq_true rfl)
  rw [lg_entry_eq]
  generalize (lg_sl ([.ref oS, .long a1, .int a3]) ++ List.replicate (4 - (lg_sl ([.ref oS, .long a1, .int a3])).length) Slot.unset).toArray = ls at hl ⊢
  refine bX6_wornBy hx hb hml hown hts hK hP ⟨Nat.le_of_ble_eq_true rfl, Nat.le_of_ble_eq_true rfl, Nat.zero_le _, Nat.zero_le _⟩ hm ls hl (fun pc ls hd => ?_)
  exact W.lret hx hb hr (fun t ht hW => ⟨r, rfl, rfl, ht⟩) (fun q h => by cases h) hd
set_option maxHeartbeats 4000000 in
set_option maxRecDepth 100000 in
theorem kX6_wornBy {own : String} {cc : ByteArray} {nL idx pc : Nat} {ls : Array Slot} {rest : List Value} {n : Nat} {a1 : Int64} {a3 : Int32} {r : Int64} (fx : CallFix p m c cc nL s args tw own) (hq : Cond.methodLink own idx yX6_wornBy ∈ tw) (hP : va_P D vwCl (wdS cI cJ oS oSs oF oFr oFs oFc oFw srim sst fw fc fwh fbo fra fst fco fro) H) (hK : va_K D vwCl [(cI, .int), (cJ, .long)] s) (hm : mX6_wornBy n fra fst fwh sst srim a1 a3 = some r) (hsz : ls.size = nL) (hR : 3 ≤ R.frames ∧ 74 ≤ R.locals ∧ cells ≤ R.cells ∧ slots ≤ R.slots) (hst : (rest.map fun v => v.category).sum ≤ 8) (hd : decode cc pc = .ok (.invokevirtual idx, 3)) (kk : W p l e R s m args below meth c H locs cells slots Q (F0 m (pc + 3) ls (.long r :: rest))) : W p l e R s m args below meth c H locs cells slots Q (F0 m pc ls (.int a3 :: .long a1 :: .ref oS :: rest)) := by
  exact vp_callSl (va_Run.run (va_runV (As := [.long a1, .int a3]) (rest := rest) fx (tX6_wornBy l hm) (cwV 2 fx.2.2.2.2 (tw_V hq qw_191 qw_192 qw_182 qw_193) rfl rfl rfl (by decide +kernel) ⟨hR.1, hR.2.1⟩) ⟨rdP_bl, va_recv hK hP (ci := 6) (q0 := 0) rfl rfl, rdP_ok hP hK⟩ rfl rfl hsz rfl (lv_room hst) hd ⟨hR.2.2.1, hR.2.2.2⟩)) (fun r9 hr9 => by first | (rw [hr9]; exact kk) | (rw [hr9.1]; exact kk))
-- X6_grownBy
def mX6_grownBy (n : Nat) (fra : Nat → Int32) (fst : Nat → Int64) (sst : Nat → Int32) (a1 : Int64) (a3 : Int32) : Option Int64 :=
  gd (ib a3 4) (jb (mX1_grown n fra fst a1 (sst a3.toNatClampNeg)) (fun (r2 : Int64) => (some r2)))
theorem dX6_grownBy_0 : decode cX6_grownBy 0 = .ok (.aload_n 0, 1) := by decide +kernel
theorem dX6_grownBy_1 : decode cX6_grownBy 1 = .ok (.getfield 17, 3) := by decide +kernel
theorem dX6_grownBy_4 : decode cX6_grownBy 4 = .ok (.lload_n 1, 1) := by decide +kernel
theorem dX6_grownBy_5 : decode cX6_grownBy 5 = .ok (.aload_n 0, 1) := by decide +kernel
theorem dX6_grownBy_6 : decode cX6_grownBy 6 = .ok (.getfield 9, 3) := by decide +kernel
theorem dX6_grownBy_9 : decode cX6_grownBy 9 = .ok (.iload_n 3, 1) := by decide +kernel
theorem dX6_grownBy_10 : decode cX6_grownBy 10 = .ok (.iaload, 1) := by decide +kernel
theorem dX6_grownBy_11 : decode cX6_grownBy 11 = .ok (.invokevirtual 31, 3) := by decide +kernel
theorem dX6_grownBy_14 : decode cX6_grownBy 14 = .ok (.lreturn, 1) := by decide +kernel
set_option maxHeartbeats 4000000 in
set_option maxRecDepth 100000 in
theorem bX6_grownBy {n : Nat} {a1 : Int64} {a3 : Int32} {r : Int64} (hx : p.tables.exec = Jvm.exec) (hb : c.code = cX6_grownBy) (hml : c.maxLocals = 4) (hown : s.vm.findClass RX6 = some m.cls) (hts : ∀ w ∈ tw, w.before args s = true) (hK : va_K D vwCl [(cI, .int), (cJ, .long)] s) (hP : va_P D vwCl (wdS cI cJ oS oSs oF oFr oFs oFc oFw srim sst fw fc fwh fbo fra fst fco fro) H) (hR : 2 ≤ R.frames ∧ 52 ≤ R.locals ∧ cells ≤ R.cells ∧ slots ≤ R.slots) (hm : mX6_grownBy n fra fst sst a1 a3 = some r) (ls : Array Slot) (hl : lv_has ls 4 [(0, .ref oS), (1, .long a1), (3, .int a3)]) (K : ∀ (pc : Nat) (ls : Array Slot), decode cX6_grownBy pc = .ok (.lreturn, 1) → W p l e R s m args below meth c H locs cells slots Q (F0 m pc ls [.long r])) : W p l e R s m args below meth c H locs cells slots Q (F0 m 0 ls []) := by
  unfold mX6_grownBy at hm
  refine lv_aload_n hx hb dX6_grownBy_0 rfl (lv_at hl 0 rfl) ?_
  refine va_get (D := D) (ci := 6) (v := .ref oF) (C := RX6) (T := TX6) (N := 3) hx hb hts tnX6 hown hK hP 0 rfl rfl 0 (by decide) (hts _ qw_187) (fun _ h9 => h9) rfl dX6_grownBy_1 ?_
  refine lv_lload_n hx hb dX6_grownBy_4 rfl (lv_at hl 1 rfl) ?_
  refine lv_aload_n hx hb dX6_grownBy_5 rfl (lv_at hl 0 rfl) ?_
  refine va_get (D := D) (ci := 6) (v := .ref oSs) (C := RX6) (T := TX6) (N := 3) hx hb hts tnX6 hown hK hP 0 rfl rfl 1 (by decide) (hts _ qw_188) (fun _ h9 => h9) rfl dX6_grownBy_6 ?_
  refine lv_iload_n hx hb dX6_grownBy_9 rfl (lv_at hl 2 rfl) ?_
  obtain ⟨g1, hm⟩ := gd_out hm
  refine va_iald hx hb hK hP 1 0 rfl rfl g1 dX6_grownBy_10 ?_
  obtain ⟨r2, h3, hm⟩ := jb_out hm
  refine kX1_grown ⟨hx, hb, hml, hown, hts⟩ qw_194 (hP.sub (ws' := (wdF cI cJ oF oFr oFs oFc oFw fw fc fwh fbo fra fst fco fro)) [2, 3, 4, 5, 6] rfl) hK h3 hl.1 ⟨Nat.le_trans (by decide) hR.1, Nat.le_trans (by decide) hR.2.1, hR.2.2⟩ (Nat.le_of_ble_eq_true rfl) dX6_grownBy_11 ?_
  have hm := Option.some.inj hm
  subst hm
  exact K 14 ls dX6_grownBy_14
set_option maxHeartbeats 4000000 in
set_option maxRecDepth 100000 in
theorem tX6_grownBy (l : Launch) {D : va_G} {n : Nat} {a1 : Int64} {a3 : Int32} {r : Int64} (hm : mX6_grownBy n fra fst sst a1 a3 = some r) : Met l yX6_grownBy (.code yX6_grownBy cX6_grownBy 4 (some .long) :: tw) ({ frames := 2, cells := 0, slots := 0, locals := 52 } : Room) (rdP D [.ref oS, .long a1, .int a3] (wdS cI cJ oS oSs oF oFr oFs oFc oFw srim sst fw fc fwh fbo fra fst fco fro) [(cI, .int), (cJ, .long)]) (vp_Sl (fun q => q = r)) 0 0 (fun _ => False) := by
  refine Met.ofW (cc := cX6_grownBy) (maxL := 4) (ret := (some .long)) (by decide) rfl ?_
  intro p e s m args below meth c s₁ B hml hv
  obtain ⟨rfl, hP, hK⟩ := hv
  have hx := B.exec
  have hb := B.bytes
  have hr := B.returns
  have hts : ∀ w ∈ tw, w.before _ s = true := fun w h => atoms_spec (ws := .code yX6_grownBy cX6_grownBy 4 (some .long) :: tw) B.pre w (List.mem_cons_of_mem _ h)
  have hown : s.vm.findClass RX6 = some m.cls := findClass_of_methodNamed B.named
  have hlocks := B.notSynchronized
  have hl := lv_entry ([.ref oS, .long a1, .int a3]) (n := 4) (Nat.le_of_ble_eq_true rfl)
  rw [lg_entry_eq]
  generalize (lg_sl ([.ref oS, .long a1, .int a3]) ++ List.replicate (4 - (lg_sl ([.ref oS, .long a1, .int a3])).length) Slot.unset).toArray = ls at hl ⊢
  refine bX6_grownBy hx hb hml hown hts hK hP ⟨Nat.le_of_ble_eq_true rfl, Nat.le_of_ble_eq_true rfl, Nat.zero_le _, Nat.zero_le _⟩ hm ls hl (fun pc ls hd => ?_)
  exact W.lret hx hb hr (fun t ht hW => ⟨r, rfl, rfl, ht⟩) (fun q h => by cases h) hd
set_option maxHeartbeats 4000000 in
set_option maxRecDepth 100000 in
theorem kX6_grownBy {own : String} {cc : ByteArray} {nL idx pc : Nat} {ls : Array Slot} {rest : List Value} {n : Nat} {a1 : Int64} {a3 : Int32} {r : Int64} (fx : CallFix p m c cc nL s args tw own) (hq : Cond.methodLink own idx yX6_grownBy ∈ tw) (hP : va_P D vwCl (wdS cI cJ oS oSs oF oFr oFs oFc oFw srim sst fw fc fwh fbo fra fst fco fro) H) (hK : va_K D vwCl [(cI, .int), (cJ, .long)] s) (hm : mX6_grownBy n fra fst sst a1 a3 = some r) (hsz : ls.size = nL) (hR : 3 ≤ R.frames ∧ 75 ≤ R.locals ∧ cells ≤ R.cells ∧ slots ≤ R.slots) (hst : (rest.map fun v => v.category).sum ≤ 8) (hd : decode cc pc = .ok (.invokevirtual idx, 3)) (kk : W p l e R s m args below meth c H locs cells slots Q (F0 m (pc + 3) ls (.long r :: rest))) : W p l e R s m args below meth c H locs cells slots Q (F0 m pc ls (.int a3 :: .long a1 :: .ref oS :: rest)) := by
  exact vp_callSl (va_Run.run (va_runV (As := [.long a1, .int a3]) (rest := rest) fx (tX6_grownBy l hm) (cwV 2 fx.2.2.2.2 (tw_V hq qw_195 qw_196 qw_182 qw_197) rfl rfl rfl (by decide +kernel) ⟨hR.1, hR.2.1⟩) ⟨rdP_bl, va_recv hK hP (ci := 6) (q0 := 0) rfl rfl, rdP_ok hP hK⟩ rfl rfl hsz rfl (lv_room hst) hd ⟨hR.2.2.1, hR.2.2.2⟩)) (fun r9 hr9 => by first | (rw [hr9]; exact kk) | (rw [hr9.1]; exact kk))
-- X6_made
def mX6_made (n : Nat) (fra : Nat → Int32) (fst : Nat → Int64) (sst : Nat → Int32) (fwh : Int64) (srim : Int32) (a1 : Int64) (a3 : Int32) : Option Int64 :=
  (if (a3 / (10 : Int32)) = (0 : Int32) then jb (mX6_grownBy n fra fst sst a1 (jrem a3 (10 : Int32))) (fun (r2 : Int64) => (some r2)) else (if (a3 / (10 : Int32)) = (1 : Int32) then jb (mX6_wornBy n fra fst fwh sst srim a1 (jrem a3 (10 : Int32))) (fun (r5 : Int64) => (some r5)) else (if (a3 / (10 : Int32)) = (2 : Int32) then jb (mX6_wornBy n fra fst fwh sst srim a1 (jrem a3 (10 : Int32))) (fun (r8 : Int64) => jb (mX6_grownBy n fra fst sst r8 (jrem a3 (10 : Int32))) (fun (r10 : Int64) => (some r10))) else (if (a3 / (10 : Int32)) = (3 : Int32) then jb (mX6_grownBy n fra fst sst a1 (jrem a3 (10 : Int32))) (fun (r13 : Int64) => jb (mX6_wornBy n fra fst fwh sst srim r13 (jrem a3 (10 : Int32))) (fun (r15 : Int64) => (some r15))) else (some (fwh &&& (a1 ^^^ (-1 : Int64))))))))
theorem dX6_made_0 : decode cX6_made 0 = .ok (.iload_n 3, 1) := by decide +kernel
theorem dX6_made_1 : decode cX6_made 1 = .ok (.bipush 10, 2) := by decide +kernel
theorem dX6_made_3 : decode cX6_made 3 = .ok (.irem, 1) := by decide +kernel
theorem dX6_made_4 : decode cX6_made 4 = .ok (.istore 4, 2) := by decide +kernel
theorem dX6_made_6 : decode cX6_made 6 = .ok (.iload_n 3, 1) := by decide +kernel
theorem dX6_made_7 : decode cX6_made 7 = .ok (.bipush 10, 2) := by decide +kernel
theorem dX6_made_9 : decode cX6_made 9 = .ok (.idiv, 1) := by decide +kernel
theorem dX6_made_10 : decode cX6_made 10 = .ok (.tableswitch 74 0 3 #[30, 38, 46, 60], 30) := by decide +kernel
theorem dX6_made_40 : decode cX6_made 40 = .ok (.aload_n 0, 1) := by decide +kernel
theorem dX6_made_41 : decode cX6_made 41 = .ok (.lload_n 1, 1) := by decide +kernel
theorem dX6_made_42 : decode cX6_made 42 = .ok (.iload 4, 2) := by decide +kernel
theorem dX6_made_44 : decode cX6_made 44 = .ok (.invokevirtual 35, 3) := by decide +kernel
theorem dX6_made_47 : decode cX6_made 47 = .ok (.lreturn, 1) := by decide +kernel
theorem dX6_made_48 : decode cX6_made 48 = .ok (.aload_n 0, 1) := by decide +kernel
theorem dX6_made_49 : decode cX6_made 49 = .ok (.lload_n 1, 1) := by decide +kernel
theorem dX6_made_50 : decode cX6_made 50 = .ok (.iload 4, 2) := by decide +kernel
theorem dX6_made_52 : decode cX6_made 52 = .ok (.invokevirtual 38, 3) := by decide +kernel
theorem dX6_made_55 : decode cX6_made 55 = .ok (.lreturn, 1) := by decide +kernel
theorem dX6_made_56 : decode cX6_made 56 = .ok (.aload_n 0, 1) := by decide +kernel
theorem dX6_made_57 : decode cX6_made 57 = .ok (.aload_n 0, 1) := by decide +kernel
theorem dX6_made_58 : decode cX6_made 58 = .ok (.lload_n 1, 1) := by decide +kernel
theorem dX6_made_59 : decode cX6_made 59 = .ok (.iload 4, 2) := by decide +kernel
theorem dX6_made_61 : decode cX6_made 61 = .ok (.invokevirtual 38, 3) := by decide +kernel
theorem dX6_made_64 : decode cX6_made 64 = .ok (.iload 4, 2) := by decide +kernel
theorem dX6_made_66 : decode cX6_made 66 = .ok (.invokevirtual 35, 3) := by decide +kernel
theorem dX6_made_69 : decode cX6_made 69 = .ok (.lreturn, 1) := by decide +kernel
theorem dX6_made_70 : decode cX6_made 70 = .ok (.aload_n 0, 1) := by decide +kernel
theorem dX6_made_71 : decode cX6_made 71 = .ok (.aload_n 0, 1) := by decide +kernel
theorem dX6_made_72 : decode cX6_made 72 = .ok (.lload_n 1, 1) := by decide +kernel
theorem dX6_made_73 : decode cX6_made 73 = .ok (.iload 4, 2) := by decide +kernel
theorem dX6_made_75 : decode cX6_made 75 = .ok (.invokevirtual 35, 3) := by decide +kernel
theorem dX6_made_78 : decode cX6_made 78 = .ok (.iload 4, 2) := by decide +kernel
theorem dX6_made_80 : decode cX6_made 80 = .ok (.invokevirtual 38, 3) := by decide +kernel
theorem dX6_made_83 : decode cX6_made 83 = .ok (.lreturn, 1) := by decide +kernel
theorem dX6_made_84 : decode cX6_made 84 = .ok (.aload_n 0, 1) := by decide +kernel
theorem dX6_made_85 : decode cX6_made 85 = .ok (.getfield 17, 3) := by decide +kernel
theorem dX6_made_88 : decode cX6_made 88 = .ok (.getfield 41, 3) := by decide +kernel
theorem dX6_made_91 : decode cX6_made 91 = .ok (.lload_n 1, 1) := by decide +kernel
theorem dX6_made_92 : decode cX6_made 92 = .ok (.ldc2_w 45, 3) := by decide +kernel
theorem dX6_made_95 : decode cX6_made 95 = .ok (.lxor, 1) := by decide +kernel
theorem dX6_made_96 : decode cX6_made 96 = .ok (.land, 1) := by decide +kernel
theorem dX6_made_97 : decode cX6_made 97 = .ok (.lreturn, 1) := by decide +kernel
set_option maxHeartbeats 4000000 in
set_option maxRecDepth 100000 in
theorem bX6_made {n : Nat} {a1 : Int64} {a3 : Int32} {r : Int64} (hx : p.tables.exec = Jvm.exec) (hb : c.code = cX6_made) (hml : c.maxLocals = 5) (hown : s.vm.findClass RX6 = some m.cls) (hts : ∀ w ∈ tw, w.before args s = true) (hK : va_K D vwCl [(cI, .int), (cJ, .long)] s) (hP : va_P D vwCl (wdS cI cJ oS oSs oF oFr oFs oFc oFw srim sst fw fc fwh fbo fra fst fco fro) H) (hR : 3 ≤ R.frames ∧ 75 ≤ R.locals ∧ cells ≤ R.cells ∧ slots ≤ R.slots) (hm : mX6_made n fra fst sst fwh srim a1 a3 = some r) (ls : Array Slot) (hl : lv_has ls 5 [(0, .ref oS), (1, .long a1), (3, .int a3)]) (K : ∀ (pc : Nat) (ls : Array Slot), decode cX6_made pc = .ok (.lreturn, 1) → W p l e R s m args below meth c H locs cells slots Q (F0 m pc ls [.long r])) : W p l e R s m args below meth c H locs cells slots Q (F0 m 0 ls []) := by
  unfold mX6_made at hm
  refine lv_iload_n hx hb dX6_made_0 rfl (lv_at hl 2 rfl) ?_
  refine lv_bipush (v := (10 : Int32)) hx hb dX6_made_1 (by decide) ?_
  refine lv_irem hx hb dX6_made_3 (by decide) ?_
  refine lv_istore (lv' := [(4, .int (jrem a3 (10 : Int32))), (0, .ref oS), (1, .long a1), (3, .int a3)]) hx hb dX6_made_4 hl (by decide) rfl (fun ls hl => ?_)
  refine lv_iload_n hx hb dX6_made_6 rfl (lv_at hl 3 rfl) ?_
  refine lv_bipush (v := (10 : Int32)) hx hb dX6_made_7 (by decide) ?_
  refine lv_idiv hx hb dX6_made_9 (by decide) ?_
  by_cases c1 : (a3 / (10 : Int32)) = (0 : Int32)
  · rw [if_pos c1] at hm
    refine lv_tableIn (tgt := 40) hx hb dX6_made_10 (by rw [c1]; decide) (by rw [c1]; decide) (by rw [c1]; rfl) (by decide) ?_
    refine lv_aload_n hx hb dX6_made_40 rfl (lv_at hl 1 rfl) ?_
    refine lv_lload_n hx hb dX6_made_41 rfl (lv_at hl 2 rfl) ?_
    refine lv_iload hx hb dX6_made_42 (lv_at hl 0 rfl) ?_
    obtain ⟨r2, h3, hm⟩ := jb_out hm
    refine kX6_grownBy ⟨hx, hb, hml, hown, hts⟩ qw_198 hP hK h3 hl.1 ⟨Nat.le_trans (by decide) hR.1, Nat.le_trans (by decide) hR.2.1, hR.2.2⟩ (Nat.le_of_ble_eq_true rfl) dX6_made_44 ?_
    have hm := Option.some.inj hm
    subst hm
    exact K 47 ls dX6_made_47
  rw [if_neg c1] at hm
  by_cases c4 : (a3 / (10 : Int32)) = (1 : Int32)
  · rw [if_pos c4] at hm
    refine lv_tableIn (tgt := 48) hx hb dX6_made_10 (by rw [c4]; decide) (by rw [c4]; decide) (by rw [c4]; rfl) (by decide) ?_
    refine lv_aload_n hx hb dX6_made_48 rfl (lv_at hl 1 rfl) ?_
    refine lv_lload_n hx hb dX6_made_49 rfl (lv_at hl 2 rfl) ?_
    refine lv_iload hx hb dX6_made_50 (lv_at hl 0 rfl) ?_
    obtain ⟨r5, h6, hm⟩ := jb_out hm
    refine kX6_wornBy ⟨hx, hb, hml, hown, hts⟩ qw_199 hP hK h6 hl.1 ⟨Nat.le_trans (by decide) hR.1, Nat.le_trans (by decide) hR.2.1, hR.2.2⟩ (Nat.le_of_ble_eq_true rfl) dX6_made_52 ?_
    have hm := Option.some.inj hm
    subst hm
    exact K 55 ls dX6_made_55
  rw [if_neg c4] at hm
  by_cases c7 : (a3 / (10 : Int32)) = (2 : Int32)
  · rw [if_pos c7] at hm
    refine lv_tableIn (tgt := 56) hx hb dX6_made_10 (by rw [c7]; decide) (by rw [c7]; decide) (by rw [c7]; rfl) (by decide) ?_
    refine lv_aload_n hx hb dX6_made_56 rfl (lv_at hl 1 rfl) ?_
    refine lv_aload_n hx hb dX6_made_57 rfl (lv_at hl 1 rfl) ?_
    refine lv_lload_n hx hb dX6_made_58 rfl (lv_at hl 2 rfl) ?_
    refine lv_iload hx hb dX6_made_59 (lv_at hl 0 rfl) ?_
    obtain ⟨r8, h9, hm⟩ := jb_out hm
    refine kX6_wornBy ⟨hx, hb, hml, hown, hts⟩ qw_199 hP hK h9 hl.1 ⟨Nat.le_trans (by decide) hR.1, Nat.le_trans (by decide) hR.2.1, hR.2.2⟩ (Nat.le_of_ble_eq_true rfl) dX6_made_61 ?_
    refine lv_iload hx hb dX6_made_64 (lv_at hl 0 rfl) ?_
    obtain ⟨r10, h11, hm⟩ := jb_out hm
    refine kX6_grownBy ⟨hx, hb, hml, hown, hts⟩ qw_198 hP hK h11 hl.1 ⟨Nat.le_trans (by decide) hR.1, Nat.le_trans (by decide) hR.2.1, hR.2.2⟩ (Nat.le_of_ble_eq_true rfl) dX6_made_66 ?_
    have hm := Option.some.inj hm
    subst hm
    exact K 69 ls dX6_made_69
  rw [if_neg c7] at hm
  by_cases c12 : (a3 / (10 : Int32)) = (3 : Int32)
  · rw [if_pos c12] at hm
    refine lv_tableIn (tgt := 70) hx hb dX6_made_10 (by rw [c12]; decide) (by rw [c12]; decide) (by rw [c12]; rfl) (by decide) ?_
    refine lv_aload_n hx hb dX6_made_70 rfl (lv_at hl 1 rfl) ?_
    refine lv_aload_n hx hb dX6_made_71 rfl (lv_at hl 1 rfl) ?_
    refine lv_lload_n hx hb dX6_made_72 rfl (lv_at hl 2 rfl) ?_
    refine lv_iload hx hb dX6_made_73 (lv_at hl 0 rfl) ?_
    obtain ⟨r13, h14, hm⟩ := jb_out hm
    refine kX6_grownBy ⟨hx, hb, hml, hown, hts⟩ qw_198 hP hK h14 hl.1 ⟨Nat.le_trans (by decide) hR.1, Nat.le_trans (by decide) hR.2.1, hR.2.2⟩ (Nat.le_of_ble_eq_true rfl) dX6_made_75 ?_
    refine lv_iload hx hb dX6_made_78 (lv_at hl 0 rfl) ?_
    obtain ⟨r15, h16, hm⟩ := jb_out hm
    refine kX6_wornBy ⟨hx, hb, hml, hown, hts⟩ qw_199 hP hK h16 hl.1 ⟨Nat.le_trans (by decide) hR.1, Nat.le_trans (by decide) hR.2.1, hR.2.2⟩ (Nat.le_of_ble_eq_true rfl) dX6_made_80 ?_
    have hm := Option.some.inj hm
    subst hm
    exact K 83 ls dX6_made_83
  rw [if_neg c12] at hm
  refine lv_tableOut (tgt := 84) hx hb dX6_made_10 (tsw4 (by assumption) (by assumption) (by assumption) (by assumption)) (by decide) ?_
  refine lv_aload_n hx hb dX6_made_84 rfl (lv_at hl 1 rfl) ?_
  refine va_get (D := D) (ci := 6) (v := .ref oF) (C := RX6) (T := TX6) (N := 3) hx hb hts tnX6 hown hK hP 0 rfl rfl 0 (by decide) (hts _ qw_187) (fun _ h9 => h9) rfl dX6_made_85 ?_
  refine va_get (D := D) (ci := 1) (v := .long fwh) (C := RX1) (T := TX1) (N := 8) hx hb hts tnX1 hown hK hP 2 rfl rfl 2 (by decide) (hts _ qw_200) (fun _ h9 => h9) rfl dX6_made_88 ?_
  refine lv_lload_n hx hb dX6_made_91 rfl (lv_at hl 2 rfl) ?_
  refine lv_ldc2 (v := (-1 : Int64)) hx hb hown (hts _ qw_201) dX6_made_92 ?_
  refine lv_lxor hx hb dX6_made_95 ?_
  refine lv_land hx hb dX6_made_96 ?_
  have hm := Option.some.inj hm
  subst hm
  exact K 97 ls dX6_made_97
set_option maxHeartbeats 4000000 in
set_option maxRecDepth 100000 in
theorem tX6_made (l : Launch) {D : va_G} {n : Nat} {a1 : Int64} {a3 : Int32} {r : Int64} (hm : mX6_made n fra fst sst fwh srim a1 a3 = some r) : Met l yX6_made (.code yX6_made cX6_made 5 (some .long) :: tw) ({ frames := 3, cells := 0, slots := 0, locals := 75 } : Room) (rdP D [.ref oS, .long a1, .int a3] (wdS cI cJ oS oSs oF oFr oFs oFc oFw srim sst fw fc fwh fbo fra fst fco fro) [(cI, .int), (cJ, .long)]) (vp_Sl (fun q => q = r)) 0 0 (fun _ => False) := by
  refine Met.ofW (cc := cX6_made) (maxL := 5) (ret := (some .long)) (by decide) rfl ?_
  intro p e s m args below meth c s₁ B hml hv
  obtain ⟨rfl, hP, hK⟩ := hv
  have hx := B.exec
  have hb := B.bytes
  have hr := B.returns
  have hts : ∀ w ∈ tw, w.before _ s = true := fun w h => atoms_spec (ws := .code yX6_made cX6_made 5 (some .long) :: tw) B.pre w (List.mem_cons_of_mem _ h)
  have hown : s.vm.findClass RX6 = some m.cls := findClass_of_methodNamed B.named
  have hlocks := B.notSynchronized
  have hl := lv_entry ([.ref oS, .long a1, .int a3]) (n := 5) (Nat.le_of_ble_eq_true rfl)
  rw [lg_entry_eq]
  generalize (lg_sl ([.ref oS, .long a1, .int a3]) ++ List.replicate (5 - (lg_sl ([.ref oS, .long a1, .int a3])).length) Slot.unset).toArray = ls at hl ⊢
  refine bX6_made hx hb hml hown hts hK hP ⟨Nat.le_of_ble_eq_true rfl, Nat.le_of_ble_eq_true rfl, Nat.zero_le _, Nat.zero_le _⟩ hm ls hl (fun pc ls hd => ?_)
  exact W.lret hx hb hr (fun t ht hW => ⟨r, rfl, rfl, ht⟩) (fun q h => by cases h) hd
set_option maxHeartbeats 4000000 in
set_option maxRecDepth 100000 in
theorem kX6_made {own : String} {cc : ByteArray} {nL idx pc : Nat} {ls : Array Slot} {rest : List Value} {n : Nat} {a1 : Int64} {a3 : Int32} {r : Int64} (fx : CallFix p m c cc nL s args tw own) (hq : Cond.methodLink own idx yX6_made ∈ tw) (hP : va_P D vwCl (wdS cI cJ oS oSs oF oFr oFs oFc oFw srim sst fw fc fwh fbo fra fst fco fro) H) (hK : va_K D vwCl [(cI, .int), (cJ, .long)] s) (hm : mX6_made n fra fst sst fwh srim a1 a3 = some r) (hsz : ls.size = nL) (hR : 4 ≤ R.frames ∧ 99 ≤ R.locals ∧ cells ≤ R.cells ∧ slots ≤ R.slots) (hst : (rest.map fun v => v.category).sum ≤ 8) (hd : decode cc pc = .ok (.invokevirtual idx, 3)) (kk : W p l e R s m args below meth c H locs cells slots Q (F0 m (pc + 3) ls (.long r :: rest))) : W p l e R s m args below meth c H locs cells slots Q (F0 m pc ls (.int a3 :: .long a1 :: .ref oS :: rest)) := by
  exact vp_callSl (va_Run.run (va_runV (As := [.long a1, .int a3]) (rest := rest) fx (tX6_made l hm) (cwV 2 fx.2.2.2.2 (tw_V hq qw_202 qw_203 qw_182 qw_204) rfl rfl rfl (by decide +kernel) ⟨hR.1, hR.2.1⟩) ⟨rdP_bl, va_recv hK hP (ci := 6) (q0 := 0) rfl rfl, rdP_ok hP hK⟩ rfl rfl hsz rfl (lv_room hst) hd ⟨hR.2.2.1, hR.2.2.2⟩)) (fun r9 hr9 => by first | (rw [hr9]; exact kk) | (rw [hr9.1]; exact kk))
-- X4_madeOf
def mX4_madeOf_L5 (n : Nat) (gsz : Int32) (fra : Nat → Int32) (fst : Nat → Int64) (sst : Nat → Int32) (fwh : Int64) (srim : Int32) (gac : Nat → Int32) : Nat → (Int64) → (Int32) → Option ((Int64))
  | 0, _, _ => none
  | k + 1, v3, v5 => (if gsz ≤ v5 then some (v3) else gd (ib v5 8) (jb (mX6_made n fra fst sst fwh srim v3 (gac v5.toNatClampNeg)) (fun (r4 : Int64) => mX4_madeOf_L5 n gsz fra fst sst fwh srim gac k r4 (v5 + (1 : Int32)))))
def mX4_madeOf (n : Nat) (gsz : Int32) (fra : Nat → Int32) (fst : Nat → Int64) (sst : Nat → Int32) (fwh : Int64) (srim : Int32) (gac : Nat → Int32) (a1 : Int64) : Option Int64 :=
  jb (mX4_madeOf_L5 n gsz fra fst sst fwh srim gac n a1 (0 : Int32)) (fun (y6 : Int64) => (some y6))
theorem dX4_madeOf_0 : decode cX4_madeOf 0 = .ok (.lload_n 1, 1) := by decide +kernel
theorem dX4_madeOf_1 : decode cX4_madeOf 1 = .ok (.lstore_n 3, 1) := by decide +kernel
theorem dX4_madeOf_2 : decode cX4_madeOf 2 = .ok (.iconst 0, 1) := by decide +kernel
theorem dX4_madeOf_3 : decode cX4_madeOf 3 = .ok (.istore 5, 2) := by decide +kernel
theorem dX4_madeOf_5 : decode cX4_madeOf 5 = .ok (.iload 5, 2) := by decide +kernel
theorem dX4_madeOf_7 : decode cX4_madeOf 7 = .ok (.aload_n 0, 1) := by decide +kernel
theorem dX4_madeOf_8 : decode cX4_madeOf 8 = .ok (.getfield 13, 3) := by decide +kernel
theorem dX4_madeOf_11 : decode cX4_madeOf 11 = .ok (.if_icmp .ge 25, 3) := by decide +kernel
theorem dX4_madeOf_14 : decode cX4_madeOf 14 = .ok (.aload_n 0, 1) := by decide +kernel
theorem dX4_madeOf_15 : decode cX4_madeOf 15 = .ok (.getfield 17, 3) := by decide +kernel
theorem dX4_madeOf_18 : decode cX4_madeOf 18 = .ok (.lload_n 3, 1) := by decide +kernel
theorem dX4_madeOf_19 : decode cX4_madeOf 19 = .ok (.aload_n 0, 1) := by decide +kernel
theorem dX4_madeOf_20 : decode cX4_madeOf 20 = .ok (.getfield 9, 3) := by decide +kernel
theorem dX4_madeOf_23 : decode cX4_madeOf 23 = .ok (.iload 5, 2) := by decide +kernel
theorem dX4_madeOf_25 : decode cX4_madeOf 25 = .ok (.iaload, 1) := by decide +kernel
theorem dX4_madeOf_26 : decode cX4_madeOf 26 = .ok (.invokevirtual 21, 3) := by decide +kernel
theorem dX4_madeOf_29 : decode cX4_madeOf 29 = .ok (.lstore_n 3, 1) := by decide +kernel
theorem dX4_madeOf_30 : decode cX4_madeOf 30 = .ok (.iinc 5 1, 3) := by decide +kernel
theorem dX4_madeOf_33 : decode cX4_madeOf 33 = .ok (.goto (-28), 3) := by decide +kernel
theorem dX4_madeOf_36 : decode cX4_madeOf 36 = .ok (.lload_n 3, 1) := by decide +kernel
theorem dX4_madeOf_37 : decode cX4_madeOf 37 = .ok (.lreturn, 1) := by decide +kernel
set_option maxHeartbeats 4000000 in
set_option maxRecDepth 100000 in
theorem wX4_madeOf_L5 {n : Nat} (hx : p.tables.exec = Jvm.exec) (hb : c.code = cX4_madeOf) (hml : c.maxLocals = 6) (hown : s.vm.findClass RX4 = some m.cls) (hts : ∀ w ∈ tw, w.before args s = true) (hK : va_K D vwCl [(cI, .int), (cJ, .long)] s) (hP : va_P D vwCl (wdG cI cJ oG oGa oS oSs oF oFr oFs oFc oFw gsz gac srim sst fw fc fwh fbo fra fst fco fro) H) (hR : 4 ≤ R.frames ∧ 99 ≤ R.locals ∧ cells ≤ R.cells ∧ slots ≤ R.slots) : ∀ (k : Nat) (v3 : Int64) (v5 : Int32) (x3 : Int64), mX4_madeOf_L5 n gsz fra fst sst fwh srim gac k v3 v5 = some (x3) → ∀ ls : Array Slot, lv_has ls 6 [(0, .ref oG), (3, .long v3), (5, .int v5)] → (∀ ls : Array Slot, lv_has ls 6 [(3, .long x3)] → W p l e R s m args below meth c H locs cells slots Q (F0 m 36 ls [])) → W p l e R s m args below meth c H locs cells slots Q (F0 m 5 ls []) := by
  intro k
  induction k with
  | zero => intro v3 v5 x3 hm; rw [mX4_madeOf_L5] at hm; cases hm
  | succ k ih =>
    intro v3 v5 x3 hm ls hl K0
    rw [mX4_madeOf_L5] at hm
    refine lv_iload hx hb dX4_madeOf_5 (lv_at hl 2 rfl) ?_
    refine lv_aload_n hx hb dX4_madeOf_7 rfl (lv_at hl 0 rfl) ?_
    refine va_get (D := D) (ci := 4) (v := .int gsz) (C := RX4) (T := TX4) (N := 3) hx hb hts tnX4 hown hK hP 0 rfl rfl 2 (by decide) (hts _ qw_205) (fun _ h9 => h9) rfl dX4_madeOf_8 ?_
    refine lv_icmp_ge (tgt := 36) hx hb dX4_madeOf_11 (by decide) (fun c2 => ?_) (fun c2 => ?_)
    · rw [if_pos c2] at hm
      have hm := Option.some.inj hm
      have e9 : x3 = v3 := (congrArg (fun q => q) hm).symm
      rw [e9] at K0
      exact K0 ls (lv_sub hl [1] rfl)
    · rw [if_neg c2] at hm
      refine lv_aload_n hx hb dX4_madeOf_14 rfl (lv_at hl 0 rfl) ?_
      refine va_get (D := D) (ci := 4) (v := .ref oS) (C := RX4) (T := TX4) (N := 3) hx hb hts tnX4 hown hK hP 0 rfl rfl 0 (by decide) (hts _ qw_206) (fun _ h9 => h9) rfl dX4_madeOf_15 ?_
      refine lv_lload_n hx hb dX4_madeOf_18 rfl (lv_at hl 1 rfl) ?_
      refine lv_aload_n hx hb dX4_madeOf_19 rfl (lv_at hl 0 rfl) ?_
      refine va_get (D := D) (ci := 4) (v := .ref oGa) (C := RX4) (T := TX4) (N := 3) hx hb hts tnX4 hown hK hP 0 rfl rfl 1 (by decide) (hts _ qw_207) (fun _ h9 => h9) rfl dX4_madeOf_20 ?_
      refine lv_iload hx hb dX4_madeOf_23 (lv_at hl 2 rfl) ?_
      obtain ⟨g3, hm⟩ := gd_out hm
      refine va_iald hx hb hK hP 1 0 rfl rfl g3 dX4_madeOf_25 ?_
      obtain ⟨r4, h5, hm⟩ := jb_out hm
      refine kX6_made ⟨hx, hb, hml, hown, hts⟩ qw_208 (hP.sub (ws' := (wdS cI cJ oS oSs oF oFr oFs oFc oFw srim sst fw fc fwh fbo fra fst fco fro)) [2, 3, 4, 5, 6, 7, 8] rfl) hK h5 hl.1 ⟨Nat.le_trans (by decide) hR.1, Nat.le_trans (by decide) hR.2.1, hR.2.2⟩ (Nat.le_of_ble_eq_true rfl) dX4_madeOf_26 ?_
      refine lv_lstore_n (lv' := [(3, .long r4), (0, .ref oG), (5, .int v5)]) hx hb dX4_madeOf_29 rfl hl (by decide) rfl (fun ls hl => ?_)
      refine lv_iinc (v := (v5 + (1 : Int32))) (lv' := [(5, .int (v5 + (1 : Int32))), (3, .long r4), (0, .ref oG)]) hx hb dX4_madeOf_30 hl (k := 2) rfl (by rfl) (by decide) rfl (fun ls hl => ?_)
      refine lv_goto (tgt := 5) hx hb dX4_madeOf_33 (by decide) ?_
      exact ih _ _ _ hm ls (lv_sub hl [2, 1, 0] rfl) K0
set_option maxHeartbeats 4000000 in
set_option maxRecDepth 100000 in
theorem bX4_madeOf {n : Nat} {a1 : Int64} {r : Int64} (hx : p.tables.exec = Jvm.exec) (hb : c.code = cX4_madeOf) (hml : c.maxLocals = 6) (hown : s.vm.findClass RX4 = some m.cls) (hts : ∀ w ∈ tw, w.before args s = true) (hK : va_K D vwCl [(cI, .int), (cJ, .long)] s) (hP : va_P D vwCl (wdG cI cJ oG oGa oS oSs oF oFr oFs oFc oFw gsz gac srim sst fw fc fwh fbo fra fst fco fro) H) (hR : 4 ≤ R.frames ∧ 99 ≤ R.locals ∧ cells ≤ R.cells ∧ slots ≤ R.slots) (hm : mX4_madeOf n gsz fra fst sst fwh srim gac a1 = some r) (ls : Array Slot) (hl : lv_has ls 6 [(0, .ref oG), (1, .long a1)]) (K : ∀ (pc : Nat) (ls : Array Slot), decode cX4_madeOf pc = .ok (.lreturn, 1) → W p l e R s m args below meth c H locs cells slots Q (F0 m pc ls [.long r])) : W p l e R s m args below meth c H locs cells slots Q (F0 m 0 ls []) := by
  unfold mX4_madeOf at hm
  refine lv_lload_n hx hb dX4_madeOf_0 rfl (lv_at hl 1 rfl) ?_
  refine lv_lstore_n (lv' := [(3, .long a1), (0, .ref oG), (1, .long a1)]) hx hb dX4_madeOf_1 rfl hl (by decide) rfl (fun ls hl => ?_)
  refine lv_iconst (v := (0 : Int32)) hx hb dX4_madeOf_2 (by decide) ?_
  refine lv_istore (lv' := [(5, .int (0 : Int32)), (3, .long a1), (0, .ref oG), (1, .long a1)]) hx hb dX4_madeOf_3 hl (by decide) rfl (fun ls hl => ?_)
  obtain ⟨y6, h7, hm⟩ := jb_out hm
  refine wX4_madeOf_L5 hx hb hml hown hts hK hP hR n _ _ _  h7 ls (lv_sub hl [2, 1, 0] rfl) (fun ls hl => ?_)
  refine lv_lload_n hx hb dX4_madeOf_36 rfl (lv_at hl 0 rfl) ?_
  have hm := Option.some.inj hm
  subst hm
  exact K 37 ls dX4_madeOf_37
set_option maxHeartbeats 4000000 in
set_option maxRecDepth 100000 in
theorem tX4_madeOf (l : Launch) {D : va_G} {n : Nat} {a1 : Int64} {r : Int64} (hm : mX4_madeOf n gsz fra fst sst fwh srim gac a1 = some r) : Met l yX4_madeOf (.code yX4_madeOf cX4_madeOf 6 (some .long) :: tw) ({ frames := 4, cells := 0, slots := 0, locals := 99 } : Room) (rdP D [.ref oG, .long a1] (wdG cI cJ oG oGa oS oSs oF oFr oFs oFc oFw gsz gac srim sst fw fc fwh fbo fra fst fco fro) [(cI, .int), (cJ, .long)]) (vp_Sl (fun q => q = r)) 0 0 (fun _ => False) := by
  refine Met.ofW (cc := cX4_madeOf) (maxL := 6) (ret := (some .long)) (by decide) rfl ?_
  intro p e s m args below meth c s₁ B hml hv
  obtain ⟨rfl, hP, hK⟩ := hv
  have hx := B.exec
  have hb := B.bytes
  have hr := B.returns
  have hts : ∀ w ∈ tw, w.before _ s = true := fun w h => atoms_spec (ws := .code yX4_madeOf cX4_madeOf 6 (some .long) :: tw) B.pre w (List.mem_cons_of_mem _ h)
  have hown : s.vm.findClass RX4 = some m.cls := findClass_of_methodNamed B.named
  have hlocks := B.notSynchronized
  have hl := lv_entry ([.ref oG, .long a1]) (n := 6) (Nat.le_of_ble_eq_true rfl)
  rw [lg_entry_eq]
  generalize (lg_sl ([.ref oG, .long a1]) ++ List.replicate (6 - (lg_sl ([.ref oG, .long a1])).length) Slot.unset).toArray = ls at hl ⊢
  refine bX4_madeOf hx hb hml hown hts hK hP ⟨Nat.le_of_ble_eq_true rfl, Nat.le_of_ble_eq_true rfl, Nat.zero_le _, Nat.zero_le _⟩ hm ls hl (fun pc ls hd => ?_)
  exact W.lret hx hb hr (fun t ht hW => ⟨r, rfl, rfl, ht⟩) (fun q h => by cases h) hd
set_option maxHeartbeats 4000000 in
set_option maxRecDepth 100000 in
theorem kX4_madeOf {own : String} {cc : ByteArray} {nL idx pc : Nat} {ls : Array Slot} {rest : List Value} {n : Nat} {a1 : Int64} {r : Int64} (fx : CallFix p m c cc nL s args tw own) (hq : Cond.methodLink own idx yX4_madeOf ∈ tw) (hP : va_P D vwCl (wdG cI cJ oG oGa oS oSs oF oFr oFs oFc oFw gsz gac srim sst fw fc fwh fbo fra fst fco fro) H) (hK : va_K D vwCl [(cI, .int), (cJ, .long)] s) (hm : mX4_madeOf n gsz fra fst sst fwh srim gac a1 = some r) (hsz : ls.size = nL) (hR : 5 ≤ R.frames ∧ 124 ≤ R.locals ∧ cells ≤ R.cells ∧ slots ≤ R.slots) (hst : (rest.map fun v => v.category).sum ≤ 8) (hd : decode cc pc = .ok (.invokevirtual idx, 3)) (kk : W p l e R s m args below meth c H locs cells slots Q (F0 m (pc + 3) ls (.long r :: rest))) : W p l e R s m args below meth c H locs cells slots Q (F0 m pc ls (.long a1 :: .ref oG :: rest)) := by
  exact vp_callSl (va_Run.run (va_runV (As := [.long a1]) (rest := rest) fx (tX4_madeOf l hm) (cwV 1 fx.2.2.2.2 (tw_V hq qw_209 qw_210 qw_211 qw_212) rfl rfl rfl (by decide +kernel) ⟨hR.1, hR.2.1⟩) ⟨rdP_bl, va_recv hK hP (ci := 4) (q0 := 0) rfl rfl, rdP_ok hP hK⟩ rfl rfl hsz rfl (lv_room hst) hd ⟨hR.2.2.1, hR.2.2.2⟩)) (fun r9 hr9 => by first | (rw [hr9]; exact kk) | (rw [hr9.1]; exact kk))
-- X3_otherJoin
def mX3_otherJoin (ijn : Int32) : Int32 :=
  (if ijn = (4 : Int32) then (8 : Int32) else (4 : Int32))
theorem dX3_otherJoin_0 : decode cX3_otherJoin 0 = .ok (.aload_n 0, 1) := by decide +kernel
theorem dX3_otherJoin_1 : decode cX3_otherJoin 1 = .ok (.getfield 9, 3) := by decide +kernel
theorem dX3_otherJoin_4 : decode cX3_otherJoin 4 = .ok (.iconst 4, 1) := by decide +kernel
theorem dX3_otherJoin_5 : decode cX3_otherJoin 5 = .ok (.if_icmp .ne 8, 3) := by decide +kernel
theorem dX3_otherJoin_8 : decode cX3_otherJoin 8 = .ok (.bipush 8, 2) := by decide +kernel
theorem dX3_otherJoin_10 : decode cX3_otherJoin 10 = .ok (.goto 4, 3) := by decide +kernel
theorem dX3_otherJoin_13 : decode cX3_otherJoin 13 = .ok (.iconst 4, 1) := by decide +kernel
theorem dX3_otherJoin_14 : decode cX3_otherJoin 14 = .ok (.ireturn, 1) := by decide +kernel
set_option maxHeartbeats 4000000 in
set_option maxRecDepth 100000 in
theorem bX3_otherJoin {r : Int32} (hx : p.tables.exec = Jvm.exec) (hb : c.code = cX3_otherJoin) (hml : c.maxLocals = 1) (hown : s.vm.findClass RX3 = some m.cls) (hts : ∀ w ∈ tw, w.before args s = true) (hK : va_K D vwCl [(cI, .int), (cJ, .long)] s) (hP : va_P D vwCl (wdI cI cJ oI oF oFr oFs oFc oFw ijn fw fc fwh fbo fra fst fco fro) H) (hR : 0 ≤ R.frames ∧ 0 ≤ R.locals ∧ cells ≤ R.cells ∧ slots ≤ R.slots) (hm : mX3_otherJoin ijn = r) (ls : Array Slot) (hl : lv_has ls 1 [(0, .ref oI)]) (K : ∀ (pc : Nat) (ls : Array Slot), decode cX3_otherJoin pc = .ok (.ireturn, 1) → W p l e R s m args below meth c H locs cells slots Q (F0 m pc ls [.int r])) : W p l e R s m args below meth c H locs cells slots Q (F0 m 0 ls []) := by
  unfold mX3_otherJoin at hm
  refine lv_aload_n hx hb dX3_otherJoin_0 rfl (lv_at hl 0 rfl) ?_
  refine va_get (D := D) (ci := 3) (v := .int ijn) (C := RX3) (T := TX3) (N := 2) hx hb hts tnX3 hown hK hP 0 rfl rfl 1 (by decide) (hts _ qw_213) (fun _ h9 => h9) rfl dX3_otherJoin_1 ?_
  refine lv_iconst (v := (4 : Int32)) hx hb dX3_otherJoin_4 (by decide) ?_
  refine lv_icmp_ne (tgt := 13) hx hb dX3_otherJoin_5 (by decide) (fun c1 => ?_) (fun c1 => ?_)
  · rw [if_neg c1] at hm
    refine lv_iconst (v := (4 : Int32)) hx hb dX3_otherJoin_13 (by decide) ?_
    subst hm
    exact K 14 ls dX3_otherJoin_14
  · rw [if_pos c1] at hm
    refine lv_bipush (v := (8 : Int32)) hx hb dX3_otherJoin_8 (by decide) ?_
    refine lv_goto (tgt := 14) hx hb dX3_otherJoin_10 (by decide) ?_
    subst hm
    exact K 14 ls dX3_otherJoin_14
set_option maxHeartbeats 4000000 in
set_option maxRecDepth 100000 in
theorem tX3_otherJoin (l : Launch) {D : va_G} {r : Int32} (hm : mX3_otherJoin ijn = r) : Met l yX3_otherJoin (.code yX3_otherJoin cX3_otherJoin 1 (some .int) :: tw) ({ frames := 0, cells := 0, slots := 0, locals := 0 } : Room) (rdP D [.ref oI] (wdI cI cJ oI oF oFr oFs oFc oFw ijn fw fc fwh fbo fra fst fco fro) [(cI, .int), (cJ, .long)]) (vp_Si (fun q => q = r)) 0 0 (fun _ => False) := by
  refine Met.ofW (cc := cX3_otherJoin) (maxL := 1) (ret := (some .int)) (by decide) rfl ?_
  intro p e s m args below meth c s₁ B hml hv
  obtain ⟨rfl, hP, hK⟩ := hv
  have hx := B.exec
  have hb := B.bytes
  have hr := B.returns
  have hts : ∀ w ∈ tw, w.before _ s = true := fun w h => atoms_spec (ws := .code yX3_otherJoin cX3_otherJoin 1 (some .int) :: tw) B.pre w (List.mem_cons_of_mem _ h)
  have hown : s.vm.findClass RX3 = some m.cls := findClass_of_methodNamed B.named
  have hlocks := B.notSynchronized
  have hl := lv_entry ([.ref oI]) (n := 1) (Nat.le_of_ble_eq_true rfl)
  rw [lg_entry_eq]
  generalize (lg_sl ([.ref oI]) ++ List.replicate (1 - (lg_sl ([.ref oI])).length) Slot.unset).toArray = ls at hl ⊢
  refine bX3_otherJoin hx hb hml hown hts hK hP ⟨Nat.le_of_ble_eq_true rfl, Nat.le_of_ble_eq_true rfl, Nat.zero_le _, Nat.zero_le _⟩ hm ls hl (fun pc ls hd => ?_)
  exact W.iret hx hb hr (fun t ht hW => ⟨r, rfl, rfl, ht⟩) (fun q h => by cases h) hd
set_option maxHeartbeats 4000000 in
set_option maxRecDepth 100000 in
theorem kX3_otherJoin {own : String} {cc : ByteArray} {nL idx pc : Nat} {ls : Array Slot} {rest : List Value} (fx : CallFix p m c cc nL s args tw own) (hq : Cond.methodLink own idx yX3_otherJoin ∈ tw) (hP : va_P D vwCl (wdI cI cJ oI oF oFr oFs oFc oFw ijn fw fc fwh fbo fra fst fco fro) H) (hK : va_K D vwCl [(cI, .int), (cJ, .long)] s) (hsz : ls.size = nL) (hR : 1 ≤ R.frames ∧ 20 ≤ R.locals ∧ cells ≤ R.cells ∧ slots ≤ R.slots) (hst : (rest.map fun v => v.category).sum ≤ 8) (hd : decode cc pc = .ok (.invokevirtual idx, 3)) (kk : W p l e R s m args below meth c H locs cells slots Q (F0 m (pc + 3) ls (.int (mX3_otherJoin ijn) :: rest))) : W p l e R s m args below meth c H locs cells slots Q (F0 m pc ls (.ref oI :: rest)) := by
  exact vp_callSi (va_Run.run (va_runV (As := []) (rest := rest) fx (tX3_otherJoin l rfl) (cwV 0 fx.2.2.2.2 (tw_V hq qw_214 qw_215 qw_216 qw_217) rfl rfl rfl (by decide +kernel) ⟨hR.1, hR.2.1⟩) ⟨rdP_bl, va_recv hK hP (ci := 3) (q0 := 0) rfl rfl, rdP_ok hP hK⟩ rfl rfl hsz rfl (lv_room hst) hd ⟨hR.2.2.1, hR.2.2.2⟩)) (fun r9 hr9 => by first | (rw [hr9]; exact kk) | (rw [hr9.1]; exact kk))
-- X3_spread
def mX3_spread_L23 (n : Nat) (fc : Int32) (fra : Nat → Int32) (fst : Nat → Int64) (v6 : Int32) (v3 : Int64) : Nat → (Int64) → (Int32) → Option (((Int64)) ⊕ ((Int64)))
  | 0, _, _ => none
  | k + 1, v7, v9 => (if fc ≤ v9 then some (.inr (v7)) else jb (mX1_grown n fra fst v7 v6) (fun (r7 : Int64) => (if (r7 &&& v3) = v7 then some (.inl (v7)) else mX3_spread_L23 n fc fra fst v6 v3 k (r7 &&& v3) (v9 + (1 : Int32)))))
def mX3_spread (n : Nat) (fc : Int32) (fra : Nat → Int32) (fst : Nat → Int64) (a1 : Int64) (a3 : Int64) (a5 : Int32) : Option Int64 :=
  jl (if a5 = (4 : Int32) then (186 : Int32) else (511 : Int32)) (fun j1 => jb (mX3_spread_L23 n fc fra fst j1 a3 n a1 (0 : Int32)) (fun q => el2 q (fun (y10 : Int64) => (some y10)) (fun (y11 : Int64) => (some y11))))
theorem dX3_spread_0 : decode cX3_spread 0 = .ok (.iload 5, 2) := by decide +kernel
theorem dX3_spread_2 : decode cX3_spread 2 = .ok (.iconst 4, 1) := by decide +kernel
theorem dX3_spread_3 : decode cX3_spread 3 = .ok (.if_icmp .ne 9, 3) := by decide +kernel
theorem dX3_spread_6 : decode cX3_spread 6 = .ok (.sipush 186, 3) := by decide +kernel
theorem dX3_spread_9 : decode cX3_spread 9 = .ok (.goto 6, 3) := by decide +kernel
theorem dX3_spread_12 : decode cX3_spread 12 = .ok (.sipush 511, 3) := by decide +kernel
theorem dX3_spread_15 : decode cX3_spread 15 = .ok (.istore 6, 2) := by decide +kernel
theorem dX3_spread_17 : decode cX3_spread 17 = .ok (.lload_n 1, 1) := by decide +kernel
theorem dX3_spread_18 : decode cX3_spread 18 = .ok (.lstore 7, 2) := by decide +kernel
theorem dX3_spread_20 : decode cX3_spread 20 = .ok (.iconst 0, 1) := by decide +kernel
theorem dX3_spread_21 : decode cX3_spread 21 = .ok (.istore 9, 2) := by decide +kernel
theorem dX3_spread_23 : decode cX3_spread 23 = .ok (.iload 9, 2) := by decide +kernel
theorem dX3_spread_25 : decode cX3_spread 25 = .ok (.aload_n 0, 1) := by decide +kernel
theorem dX3_spread_26 : decode cX3_spread 26 = .ok (.getfield 13, 3) := by decide +kernel
theorem dX3_spread_29 : decode cX3_spread 29 = .ok (.getfield 44, 3) := by decide +kernel
theorem dX3_spread_32 : decode cX3_spread 32 = .ok (.if_icmp .ge 39, 3) := by decide +kernel
theorem dX3_spread_35 : decode cX3_spread 35 = .ok (.aload_n 0, 1) := by decide +kernel
theorem dX3_spread_36 : decode cX3_spread 36 = .ok (.getfield 13, 3) := by decide +kernel
theorem dX3_spread_39 : decode cX3_spread 39 = .ok (.lload 7, 2) := by decide +kernel
theorem dX3_spread_41 : decode cX3_spread 41 = .ok (.iload 6, 2) := by decide +kernel
theorem dX3_spread_43 : decode cX3_spread 43 = .ok (.invokevirtual 47, 3) := by decide +kernel
theorem dX3_spread_46 : decode cX3_spread 46 = .ok (.lload_n 3, 1) := by decide +kernel
theorem dX3_spread_47 : decode cX3_spread 47 = .ok (.land, 1) := by decide +kernel
theorem dX3_spread_48 : decode cX3_spread 48 = .ok (.lstore 10, 2) := by decide +kernel
theorem dX3_spread_50 : decode cX3_spread 50 = .ok (.lload 10, 2) := by decide +kernel
theorem dX3_spread_52 : decode cX3_spread 52 = .ok (.lload 7, 2) := by decide +kernel
theorem dX3_spread_54 : decode cX3_spread 54 = .ok (.lcmp, 1) := by decide +kernel
theorem dX3_spread_55 : decode cX3_spread 55 = .ok (.ifCond .ne 6, 3) := by decide +kernel
theorem dX3_spread_58 : decode cX3_spread 58 = .ok (.goto 13, 3) := by decide +kernel
theorem dX3_spread_61 : decode cX3_spread 61 = .ok (.lload 10, 2) := by decide +kernel
theorem dX3_spread_63 : decode cX3_spread 63 = .ok (.lstore 7, 2) := by decide +kernel
theorem dX3_spread_65 : decode cX3_spread 65 = .ok (.iinc 9 1, 3) := by decide +kernel
theorem dX3_spread_68 : decode cX3_spread 68 = .ok (.goto (-45), 3) := by decide +kernel
theorem dX3_spread_71 : decode cX3_spread 71 = .ok (.lload 7, 2) := by decide +kernel
theorem dX3_spread_73 : decode cX3_spread 73 = .ok (.lreturn, 1) := by decide +kernel
set_option maxHeartbeats 4000000 in
set_option maxRecDepth 100000 in
theorem wX3_spread_L23 {n : Nat} {v3 : Int64} {v6 : Int32} (hx : p.tables.exec = Jvm.exec) (hb : c.code = cX3_spread) (hml : c.maxLocals = 12) (hown : s.vm.findClass RX3 = some m.cls) (hts : ∀ w ∈ tw, w.before args s = true) (hK : va_K D vwCl [(cI, .int), (cJ, .long)] s) (hP : va_P D vwCl (wdI cI cJ oI oF oFr oFs oFc oFw ijn fw fc fwh fbo fra fst fco fro) H) (hR : 2 ≤ R.frames ∧ 52 ≤ R.locals ∧ cells ≤ R.cells ∧ slots ≤ R.slots) : ∀ (k : Nat) (v7 : Int64) (v9 : Int32) (x : ((Int64)) ⊕ ((Int64))), mX3_spread_L23 n fc fra fst v6 v3 k v7 v9 = some x → ∀ ls : Array Slot, lv_has ls 12 [(0, .ref oI), (3, .long v3), (6, .int v6), (7, .long v7), (9, .int v9)] → (∀ (x7 : Int64), x = .inl (x7) → ∀ ls : Array Slot, lv_has ls 12 [(7, .long x7)] → W p l e R s m args below meth c H locs cells slots Q (F0 m 58 ls [])) → (∀ (x7 : Int64), x = .inr (x7) → ∀ ls : Array Slot, lv_has ls 12 [(7, .long x7)] → W p l e R s m args below meth c H locs cells slots Q (F0 m 71 ls [])) → W p l e R s m args below meth c H locs cells slots Q (F0 m 23 ls []) := by
  intro k
  induction k with
  | zero => intro v7 v9 x hm; rw [mX3_spread_L23] at hm; cases hm
  | succ k ih =>
    intro v7 v9 x hm ls hl K0 K1
    rw [mX3_spread_L23] at hm
    refine lv_iload hx hb dX3_spread_23 (lv_at hl 4 rfl) ?_
    refine lv_aload_n hx hb dX3_spread_25 rfl (lv_at hl 0 rfl) ?_
    refine va_get (D := D) (ci := 3) (v := .ref oF) (C := RX3) (T := TX3) (N := 2) hx hb hts tnX3 hown hK hP 0 rfl rfl 0 (by decide) (hts _ qw_218) (fun _ h9 => h9) rfl dX3_spread_26 ?_
    refine va_get (D := D) (ci := 1) (v := .int fc) (C := RX1) (T := TX1) (N := 8) hx hb hts tnX1 hown hK hP 1 rfl rfl 1 (by decide) (hts _ qw_219) (fun _ h9 => h9) rfl dX3_spread_29 ?_
    refine lv_icmp_ge (tgt := 71) hx hb dX3_spread_32 (by decide) (fun c6 => ?_) (fun c6 => ?_)
    · rw [if_pos c6] at hm
      exact K1 _ (Option.some.inj hm).symm ls (lv_sub hl [3] rfl)
    · rw [if_neg c6] at hm
      refine lv_aload_n hx hb dX3_spread_35 rfl (lv_at hl 0 rfl) ?_
      refine va_get (D := D) (ci := 3) (v := .ref oF) (C := RX3) (T := TX3) (N := 2) hx hb hts tnX3 hown hK hP 0 rfl rfl 0 (by decide) (hts _ qw_218) (fun _ h9 => h9) rfl dX3_spread_36 ?_
      refine lv_lload hx hb dX3_spread_39 (lv_at hl 3 rfl) ?_
      refine lv_iload hx hb dX3_spread_41 (lv_at hl 2 rfl) ?_
      obtain ⟨r7, h8, hm⟩ := jb_out hm
      refine kX1_grown ⟨hx, hb, hml, hown, hts⟩ qw_220 (hP.sub (ws' := (wdF cI cJ oF oFr oFs oFc oFw fw fc fwh fbo fra fst fco fro)) [1, 2, 3, 4, 5] rfl) hK h8 hl.1 ⟨Nat.le_trans (by decide) hR.1, Nat.le_trans (by decide) hR.2.1, hR.2.2⟩ (Nat.le_of_ble_eq_true rfl) dX3_spread_43 ?_
      refine lv_lload_n hx hb dX3_spread_46 rfl (lv_at hl 1 rfl) ?_
      refine lv_land hx hb dX3_spread_47 ?_
      refine lv_lstore (lv' := [(10, .long (r7 &&& v3)), (0, .ref oI), (3, .long v3), (6, .int v6), (7, .long v7), (9, .int v9)]) hx hb dX3_spread_48 hl (by decide) rfl (fun ls hl => ?_)
      refine lv_lload hx hb dX3_spread_50 (lv_at hl 0 rfl) ?_
      refine lv_lload hx hb dX3_spread_52 (lv_at hl 4 rfl) ?_
      refine W.lcmp hx hb dX3_spread_54 ?_
      refine lv_if_ne (tgt := 61) hx hb dX3_spread_55 (by decide) (fun c9 => ?_) (fun c9 => ?_)
      · have c9 := fun h9 => c9 ((lg_cmp_eq (r7 &&& v3) v7).mpr h9)
        rw [if_neg c9] at hm
        refine lv_lload hx hb dX3_spread_61 (lv_at hl 0 rfl) ?_
        refine lv_lstore (lv' := [(7, .long (r7 &&& v3)), (10, .long (r7 &&& v3)), (0, .ref oI), (3, .long v3), (6, .int v6), (9, .int v9)]) hx hb dX3_spread_63 hl (by decide) rfl (fun ls hl => ?_)
        refine lv_iinc (v := (v9 + (1 : Int32))) (lv' := [(9, .int (v9 + (1 : Int32))), (7, .long (r7 &&& v3)), (10, .long (r7 &&& v3)), (0, .ref oI), (3, .long v3), (6, .int v6)]) hx hb dX3_spread_65 hl (k := 5) rfl (by rfl) (by decide) rfl (fun ls hl => ?_)
        refine lv_goto (tgt := 23) hx hb dX3_spread_68 (by decide) ?_
        exact ih _ _ _ hm ls (lv_sub hl [3, 4, 5, 1, 0] rfl) K0 K1
      · have c9 := (lg_cmp_eq (r7 &&& v3) v7).mp c9
        rw [if_pos c9] at hm
        exact K0 _ (Option.some.inj hm).symm ls (lv_sub hl [4] rfl)
set_option maxHeartbeats 4000000 in
set_option maxRecDepth 100000 in
theorem bX3_spread {n : Nat} {a1 : Int64} {a3 : Int64} {a5 : Int32} {r : Int64} (hx : p.tables.exec = Jvm.exec) (hb : c.code = cX3_spread) (hml : c.maxLocals = 12) (hown : s.vm.findClass RX3 = some m.cls) (hts : ∀ w ∈ tw, w.before args s = true) (hK : va_K D vwCl [(cI, .int), (cJ, .long)] s) (hP : va_P D vwCl (wdI cI cJ oI oF oFr oFs oFc oFw ijn fw fc fwh fbo fra fst fco fro) H) (hR : 2 ≤ R.frames ∧ 52 ≤ R.locals ∧ cells ≤ R.cells ∧ slots ≤ R.slots) (hm : mX3_spread n fc fra fst a1 a3 a5 = some r) (ls : Array Slot) (hl : lv_has ls 12 [(0, .ref oI), (1, .long a1), (3, .long a3), (5, .int a5)]) (K : ∀ (pc : Nat) (ls : Array Slot), decode cX3_spread pc = .ok (.lreturn, 1) → W p l e R s m args below meth c H locs cells slots Q (F0 m pc ls [.long r])) : W p l e R s m args below meth c H locs cells slots Q (F0 m 0 ls []) := by
  unfold mX3_spread at hm
  refine lv_iload hx hb dX3_spread_0 (lv_at hl 3 rfl) ?_
  refine lv_iconst (v := (4 : Int32)) hx hb dX3_spread_2 (by decide) ?_
  obtain ⟨j1, hi2, hm⟩ := jl_out hm
  have key3 : ∀ (ls : Array Slot), lv_has ls 12 [(0, .ref oI), (1, .long a1), (3, .long a3)] → W p l e R s m args below meth c H locs cells slots Q (F0 m 15 ls [.int j1]) := by
    intro ls hl
    refine lv_istore (lv' := [(6, .int j1), (0, .ref oI), (1, .long a1), (3, .long a3)]) hx hb dX3_spread_15 hl (by decide) rfl (fun ls hl => ?_)
    refine lv_lload_n hx hb dX3_spread_17 rfl (lv_at hl 2 rfl) ?_
    refine lv_lstore (lv' := [(7, .long a1), (6, .int j1), (0, .ref oI), (1, .long a1), (3, .long a3)]) hx hb dX3_spread_18 hl (by decide) rfl (fun ls hl => ?_)
    refine lv_iconst (v := (0 : Int32)) hx hb dX3_spread_20 (by decide) ?_
    refine lv_istore (lv' := [(9, .int (0 : Int32)), (7, .long a1), (6, .int j1), (0, .ref oI), (1, .long a1), (3, .long a3)]) hx hb dX3_spread_21 hl (by decide) rfl (fun ls hl => ?_)
    obtain ⟨z13, h12, hm⟩ := jb_out hm
    refine wX3_spread_L23 hx hb hml hown hts hK hP hR n _ _ _ h12 ls (lv_sub hl [3, 5, 2, 1, 0] rfl) ?_ ?_
    · intro y10 e14 ls hl
      subst e14
      simp only [el2] at hm
      refine lv_goto (tgt := 71) hx hb dX3_spread_58 (by decide) ?_
      refine lv_lload hx hb dX3_spread_71 (lv_at hl 0 rfl) ?_
      have hm := Option.some.inj hm
      subst hm
      exact K 73 ls dX3_spread_73
    · intro y11 e15 ls hl
      subst e15
      simp only [el2] at hm
      refine lv_lload hx hb dX3_spread_71 (lv_at hl 0 rfl) ?_
      have hm := Option.some.inj hm
      subst hm
      exact K 73 ls dX3_spread_73
  refine lv_icmp_ne (tgt := 12) hx hb dX3_spread_3 (by decide) (fun c4 => ?_) (fun c4 => ?_)
  · rw [if_neg c4] at hi2
    refine lv_sipush (v := (511 : Int32)) hx hb dX3_spread_12 (by decide) ?_
    rw [hi2] at key3
    exact key3 ls (lv_sub hl [0, 1, 2] rfl)
  · rw [if_pos c4] at hi2
    refine lv_sipush (v := (186 : Int32)) hx hb dX3_spread_6 (by decide) ?_
    refine lv_goto (tgt := 15) hx hb dX3_spread_9 (by decide) ?_
    rw [hi2] at key3
    exact key3 ls (lv_sub hl [0, 1, 2] rfl)
set_option maxHeartbeats 4000000 in
set_option maxRecDepth 100000 in
theorem tX3_spread (l : Launch) {D : va_G} {n : Nat} {a1 : Int64} {a3 : Int64} {a5 : Int32} {r : Int64} (hm : mX3_spread n fc fra fst a1 a3 a5 = some r) : Met l yX3_spread (.code yX3_spread cX3_spread 12 (some .long) :: tw) ({ frames := 2, cells := 0, slots := 0, locals := 52 } : Room) (rdP D [.ref oI, .long a1, .long a3, .int a5] (wdI cI cJ oI oF oFr oFs oFc oFw ijn fw fc fwh fbo fra fst fco fro) [(cI, .int), (cJ, .long)]) (vp_Sl (fun q => q = r)) 0 0 (fun _ => False) := by
  refine Met.ofW (cc := cX3_spread) (maxL := 12) (ret := (some .long)) (by decide) rfl ?_
  intro p e s m args below meth c s₁ B hml hv
  obtain ⟨rfl, hP, hK⟩ := hv
  have hx := B.exec
  have hb := B.bytes
  have hr := B.returns
  have hts : ∀ w ∈ tw, w.before _ s = true := fun w h => atoms_spec (ws := .code yX3_spread cX3_spread 12 (some .long) :: tw) B.pre w (List.mem_cons_of_mem _ h)
  have hown : s.vm.findClass RX3 = some m.cls := findClass_of_methodNamed B.named
  have hlocks := B.notSynchronized
  have hl := lv_entry ([.ref oI, .long a1, .long a3, .int a5]) (n := 12) (Nat.le_of_ble_eq_true rfl)
  rw [lg_entry_eq]
  generalize (lg_sl ([.ref oI, .long a1, .long a3, .int a5]) ++ List.replicate (12 - (lg_sl ([.ref oI, .long a1, .long a3, .int a5])).length) Slot.unset).toArray = ls at hl ⊢
  refine bX3_spread hx hb hml hown hts hK hP ⟨Nat.le_of_ble_eq_true rfl, Nat.le_of_ble_eq_true rfl, Nat.zero_le _, Nat.zero_le _⟩ hm ls hl (fun pc ls hd => ?_)
  exact W.lret hx hb hr (fun t ht hW => ⟨r, rfl, rfl, ht⟩) (fun q h => by cases h) hd
set_option maxHeartbeats 4000000 in
set_option maxRecDepth 100000 in
theorem kX3_spread {own : String} {cc : ByteArray} {nL idx pc : Nat} {ls : Array Slot} {rest : List Value} {n : Nat} {a1 : Int64} {a3 : Int64} {a5 : Int32} {r : Int64} (fx : CallFix p m c cc nL s args tw own) (hq : Cond.methodLink own idx yX3_spread ∈ tw) (hP : va_P D vwCl (wdI cI cJ oI oF oFr oFs oFc oFw ijn fw fc fwh fbo fra fst fco fro) H) (hK : va_K D vwCl [(cI, .int), (cJ, .long)] s) (hm : mX3_spread n fc fra fst a1 a3 a5 = some r) (hsz : ls.size = nL) (hR : 3 ≤ R.frames ∧ 83 ≤ R.locals ∧ cells ≤ R.cells ∧ slots ≤ R.slots) (hst : (rest.map fun v => v.category).sum ≤ 8) (hd : decode cc pc = .ok (.invokevirtual idx, 3)) (kk : W p l e R s m args below meth c H locs cells slots Q (F0 m (pc + 3) ls (.long r :: rest))) : W p l e R s m args below meth c H locs cells slots Q (F0 m pc ls (.int a5 :: .long a3 :: .long a1 :: .ref oI :: rest)) := by
  exact vp_callSl (va_Run.run (va_runV (As := [.long a1, .long a3, .int a5]) (rest := rest) fx (tX3_spread l hm) (cwV 3 fx.2.2.2.2 (tw_V hq qw_221 qw_222 qw_216 qw_223) rfl rfl rfl (by decide +kernel) ⟨hR.1, hR.2.1⟩) ⟨rdP_bl, va_recv hK hP (ci := 3) (q0 := 0) rfl rfl, rdP_ok hP hK⟩ rfl rfl hsz rfl (lv_room hst) hd ⟨hR.2.2.1, hR.2.2.2⟩)) (fun r9 hr9 => by first | (rw [hr9]; exact kk) | (rw [hr9.1]; exact kk))
-- X3_around
def mX3_around (n : Nat) (fc : Int32) (fra : Nat → Int32) (fst : Nat → Int64) (ijn : Int32) (a1 : Int32) (a2 : Int64) : Option Int64 :=
  jb (mX3_spread n fc fra fst (jlshl (1 : Int64) a1) a2 ijn) (fun (r1 : Int64) => (some r1))
theorem dX3_around_0 : decode cX3_around 0 = .ok (.aload_n 0, 1) := by decide +kernel
theorem dX3_around_1 : decode cX3_around 1 = .ok (.lconst 1, 1) := by decide +kernel
theorem dX3_around_2 : decode cX3_around 2 = .ok (.iload_n 1, 1) := by decide +kernel
theorem dX3_around_3 : decode cX3_around 3 = .ok (.lshl, 1) := by decide +kernel
theorem dX3_around_4 : decode cX3_around 4 = .ok (.lload_n 2, 1) := by decide +kernel
theorem dX3_around_5 : decode cX3_around 5 = .ok (.aload_n 0, 1) := by decide +kernel
theorem dX3_around_6 : decode cX3_around 6 = .ok (.getfield 9, 3) := by decide +kernel
theorem dX3_around_9 : decode cX3_around 9 = .ok (.invokevirtual 17, 3) := by decide +kernel
theorem dX3_around_12 : decode cX3_around 12 = .ok (.lreturn, 1) := by decide +kernel
set_option maxHeartbeats 4000000 in
set_option maxRecDepth 100000 in
theorem bX3_around {n : Nat} {a1 : Int32} {a2 : Int64} {r : Int64} (hx : p.tables.exec = Jvm.exec) (hb : c.code = cX3_around) (hml : c.maxLocals = 4) (hown : s.vm.findClass RX3 = some m.cls) (hts : ∀ w ∈ tw, w.before args s = true) (hK : va_K D vwCl [(cI, .int), (cJ, .long)] s) (hP : va_P D vwCl (wdI cI cJ oI oF oFr oFs oFc oFw ijn fw fc fwh fbo fra fst fco fro) H) (hR : 3 ≤ R.frames ∧ 83 ≤ R.locals ∧ cells ≤ R.cells ∧ slots ≤ R.slots) (hm : mX3_around n fc fra fst ijn a1 a2 = some r) (ls : Array Slot) (hl : lv_has ls 4 [(0, .ref oI), (1, .int a1), (2, .long a2)]) (K : ∀ (pc : Nat) (ls : Array Slot), decode cX3_around pc = .ok (.lreturn, 1) → W p l e R s m args below meth c H locs cells slots Q (F0 m pc ls [.long r])) : W p l e R s m args below meth c H locs cells slots Q (F0 m 0 ls []) := by
  unfold mX3_around at hm
  refine lv_aload_n hx hb dX3_around_0 rfl (lv_at hl 0 rfl) ?_
  refine lv_lconst (v := (1 : Int64)) hx hb dX3_around_1 (by decide) ?_
  refine lv_iload_n hx hb dX3_around_2 rfl (lv_at hl 1 rfl) ?_
  refine lv_lshl (v := (jlshl (1 : Int64) a1)) hx hb dX3_around_3 rfl ?_
  refine lv_lload_n hx hb dX3_around_4 rfl (lv_at hl 2 rfl) ?_
  refine lv_aload_n hx hb dX3_around_5 rfl (lv_at hl 0 rfl) ?_
  refine va_get (D := D) (ci := 3) (v := .int ijn) (C := RX3) (T := TX3) (N := 2) hx hb hts tnX3 hown hK hP 0 rfl rfl 1 (by decide) (hts _ qw_213) (fun _ h9 => h9) rfl dX3_around_6 ?_
  obtain ⟨r1, h2, hm⟩ := jb_out hm
  refine kX3_spread ⟨hx, hb, hml, hown, hts⟩ qw_224 hP hK h2 hl.1 ⟨Nat.le_trans (by decide) hR.1, Nat.le_trans (by decide) hR.2.1, hR.2.2⟩ (Nat.le_of_ble_eq_true rfl) dX3_around_9 ?_
  have hm := Option.some.inj hm
  subst hm
  exact K 12 ls dX3_around_12
set_option maxHeartbeats 4000000 in
set_option maxRecDepth 100000 in
theorem tX3_around (l : Launch) {D : va_G} {n : Nat} {a1 : Int32} {a2 : Int64} {r : Int64} (hm : mX3_around n fc fra fst ijn a1 a2 = some r) : Met l yX3_around (.code yX3_around cX3_around 4 (some .long) :: tw) ({ frames := 3, cells := 0, slots := 0, locals := 83 } : Room) (rdP D [.ref oI, .int a1, .long a2] (wdI cI cJ oI oF oFr oFs oFc oFw ijn fw fc fwh fbo fra fst fco fro) [(cI, .int), (cJ, .long)]) (vp_Sl (fun q => q = r)) 0 0 (fun _ => False) := by
  refine Met.ofW (cc := cX3_around) (maxL := 4) (ret := (some .long)) (by decide) rfl ?_
  intro p e s m args below meth c s₁ B hml hv
  obtain ⟨rfl, hP, hK⟩ := hv
  have hx := B.exec
  have hb := B.bytes
  have hr := B.returns
  have hts : ∀ w ∈ tw, w.before _ s = true := fun w h => atoms_spec (ws := .code yX3_around cX3_around 4 (some .long) :: tw) B.pre w (List.mem_cons_of_mem _ h)
  have hown : s.vm.findClass RX3 = some m.cls := findClass_of_methodNamed B.named
  have hlocks := B.notSynchronized
  have hl := lv_entry ([.ref oI, .int a1, .long a2]) (n := 4) (Nat.le_of_ble_eq_true rfl)
  rw [lg_entry_eq]
  generalize (lg_sl ([.ref oI, .int a1, .long a2]) ++ List.replicate (4 - (lg_sl ([.ref oI, .int a1, .long a2])).length) Slot.unset).toArray = ls at hl ⊢
  refine bX3_around hx hb hml hown hts hK hP ⟨Nat.le_of_ble_eq_true rfl, Nat.le_of_ble_eq_true rfl, Nat.zero_le _, Nat.zero_le _⟩ hm ls hl (fun pc ls hd => ?_)
  exact W.lret hx hb hr (fun t ht hW => ⟨r, rfl, rfl, ht⟩) (fun q h => by cases h) hd
set_option maxHeartbeats 4000000 in
set_option maxRecDepth 100000 in
theorem kX3_around {own : String} {cc : ByteArray} {nL idx pc : Nat} {ls : Array Slot} {rest : List Value} {n : Nat} {a1 : Int32} {a2 : Int64} {r : Int64} (fx : CallFix p m c cc nL s args tw own) (hq : Cond.methodLink own idx yX3_around ∈ tw) (hP : va_P D vwCl (wdI cI cJ oI oF oFr oFs oFc oFw ijn fw fc fwh fbo fra fst fco fro) H) (hK : va_K D vwCl [(cI, .int), (cJ, .long)] s) (hm : mX3_around n fc fra fst ijn a1 a2 = some r) (hsz : ls.size = nL) (hR : 4 ≤ R.frames ∧ 106 ≤ R.locals ∧ cells ≤ R.cells ∧ slots ≤ R.slots) (hst : (rest.map fun v => v.category).sum ≤ 8) (hd : decode cc pc = .ok (.invokevirtual idx, 3)) (kk : W p l e R s m args below meth c H locs cells slots Q (F0 m (pc + 3) ls (.long r :: rest))) : W p l e R s m args below meth c H locs cells slots Q (F0 m pc ls (.long a2 :: .int a1 :: .ref oI :: rest)) := by
  exact vp_callSl (va_Run.run (va_runV (As := [.int a1, .long a2]) (rest := rest) fx (tX3_around l hm) (cwV 2 fx.2.2.2.2 (tw_V hq qw_225 qw_226 qw_216 qw_227) rfl rfl rfl (by decide +kernel) ⟨hR.1, hR.2.1⟩) ⟨rdP_bl, va_recv hK hP (ci := 3) (q0 := 0) rfl rfl, rdP_ok hP hK⟩ rfl rfl hsz rfl (lv_room hst) hd ⟨hR.2.2.1, hR.2.2.2⟩)) (fun r9 hr9 => by first | (rw [hr9]; exact kk) | (rw [hr9.1]; exact kk))
-- X3_howManyBy
def mX3_howManyBy_L9 (n : Nat) (fc : Int32) (fra : Nat → Int32) (fst : Nat → Int64) (v1 : Int32) : Nat → (Int64) → (Int32) → (Int32) → Option ((Int32))
  | 0, _, _, _ => none
  | k + 1, v4, v6, v7 => (if fc ≤ v7 then some (v6) else jb2 (if ((jlushr v4 v7) &&& (1 : Int64)) = (0 : Int64) then (some (v4, v6)) else jb (mX3_spread n fc fra fst (jlshl (1 : Int64) v7) v4 v1) (fun (r8 : Int64) => (some ((v4 &&& (r8 ^^^ (-1 : Int64))), (v6 + (1 : Int32)))))) (fun (j3 : Int64) (j4 : Int32) => mX3_howManyBy_L9 n fc fra fst v1 k j3 j4 (v7 + (1 : Int32))))
def mX3_howManyBy (n : Nat) (fc : Int32) (fra : Nat → Int32) (fst : Nat → Int64) (a1 : Int32) (a2 : Int64) : Option Int32 :=
  jb (mX3_howManyBy_L9 n fc fra fst a1 n a2 (0 : Int32) (0 : Int32)) (fun (y10 : Int32) => (some y10))
theorem dX3_howManyBy_0 : decode cX3_howManyBy 0 = .ok (.lload_n 2, 1) := by decide +kernel
theorem dX3_howManyBy_1 : decode cX3_howManyBy 1 = .ok (.lstore 4, 2) := by decide +kernel
theorem dX3_howManyBy_3 : decode cX3_howManyBy 3 = .ok (.iconst 0, 1) := by decide +kernel
theorem dX3_howManyBy_4 : decode cX3_howManyBy 4 = .ok (.istore 6, 2) := by decide +kernel
theorem dX3_howManyBy_6 : decode cX3_howManyBy 6 = .ok (.iconst 0, 1) := by decide +kernel
theorem dX3_howManyBy_7 : decode cX3_howManyBy 7 = .ok (.istore 7, 2) := by decide +kernel
theorem dX3_howManyBy_9 : decode cX3_howManyBy 9 = .ok (.iload 7, 2) := by decide +kernel
theorem dX3_howManyBy_11 : decode cX3_howManyBy 11 = .ok (.aload_n 0, 1) := by decide +kernel
theorem dX3_howManyBy_12 : decode cX3_howManyBy 12 = .ok (.getfield 13, 3) := by decide +kernel
theorem dX3_howManyBy_15 : decode cX3_howManyBy 15 = .ok (.getfield 44, 3) := by decide +kernel
theorem dX3_howManyBy_18 : decode cX3_howManyBy 18 = .ok (.if_icmp .ge 44, 3) := by decide +kernel
theorem dX3_howManyBy_21 : decode cX3_howManyBy 21 = .ok (.lload 4, 2) := by decide +kernel
theorem dX3_howManyBy_23 : decode cX3_howManyBy 23 = .ok (.iload 7, 2) := by decide +kernel
theorem dX3_howManyBy_25 : decode cX3_howManyBy 25 = .ok (.lushr, 1) := by decide +kernel
theorem dX3_howManyBy_26 : decode cX3_howManyBy 26 = .ok (.lconst 1, 1) := by decide +kernel
theorem dX3_howManyBy_27 : decode cX3_howManyBy 27 = .ok (.land, 1) := by decide +kernel
theorem dX3_howManyBy_28 : decode cX3_howManyBy 28 = .ok (.lconst 0, 1) := by decide +kernel
theorem dX3_howManyBy_29 : decode cX3_howManyBy 29 = .ok (.lcmp, 1) := by decide +kernel
theorem dX3_howManyBy_30 : decode cX3_howManyBy 30 = .ok (.ifCond .eq 26, 3) := by decide +kernel
theorem dX3_howManyBy_33 : decode cX3_howManyBy 33 = .ok (.lload 4, 2) := by decide +kernel
theorem dX3_howManyBy_35 : decode cX3_howManyBy 35 = .ok (.aload_n 0, 1) := by decide +kernel
theorem dX3_howManyBy_36 : decode cX3_howManyBy 36 = .ok (.lconst 1, 1) := by decide +kernel
theorem dX3_howManyBy_37 : decode cX3_howManyBy 37 = .ok (.iload 7, 2) := by decide +kernel
theorem dX3_howManyBy_39 : decode cX3_howManyBy 39 = .ok (.lshl, 1) := by decide +kernel
theorem dX3_howManyBy_40 : decode cX3_howManyBy 40 = .ok (.lload 4, 2) := by decide +kernel
theorem dX3_howManyBy_42 : decode cX3_howManyBy 42 = .ok (.iload_n 1, 1) := by decide +kernel
theorem dX3_howManyBy_43 : decode cX3_howManyBy 43 = .ok (.invokevirtual 17, 3) := by decide +kernel
theorem dX3_howManyBy_46 : decode cX3_howManyBy 46 = .ok (.ldc2_w 39, 3) := by decide +kernel
theorem dX3_howManyBy_49 : decode cX3_howManyBy 49 = .ok (.lxor, 1) := by decide +kernel
theorem dX3_howManyBy_50 : decode cX3_howManyBy 50 = .ok (.land, 1) := by decide +kernel
theorem dX3_howManyBy_51 : decode cX3_howManyBy 51 = .ok (.lstore 4, 2) := by decide +kernel
theorem dX3_howManyBy_53 : decode cX3_howManyBy 53 = .ok (.iinc 6 1, 3) := by decide +kernel
theorem dX3_howManyBy_56 : decode cX3_howManyBy 56 = .ok (.iinc 7 1, 3) := by decide +kernel
theorem dX3_howManyBy_59 : decode cX3_howManyBy 59 = .ok (.goto (-50), 3) := by decide +kernel
theorem dX3_howManyBy_62 : decode cX3_howManyBy 62 = .ok (.iload 6, 2) := by decide +kernel
theorem dX3_howManyBy_64 : decode cX3_howManyBy 64 = .ok (.ireturn, 1) := by decide +kernel
set_option maxHeartbeats 4000000 in
set_option maxRecDepth 100000 in
theorem wX3_howManyBy_L9 {n : Nat} {v1 : Int32} (hx : p.tables.exec = Jvm.exec) (hb : c.code = cX3_howManyBy) (hml : c.maxLocals = 8) (hown : s.vm.findClass RX3 = some m.cls) (hts : ∀ w ∈ tw, w.before args s = true) (hK : va_K D vwCl [(cI, .int), (cJ, .long)] s) (hP : va_P D vwCl (wdI cI cJ oI oF oFr oFs oFc oFw ijn fw fc fwh fbo fra fst fco fro) H) (hR : 3 ≤ R.frames ∧ 83 ≤ R.locals ∧ cells ≤ R.cells ∧ slots ≤ R.slots) : ∀ (k : Nat) (v4 : Int64) (v6 : Int32) (v7 : Int32) (x6 : Int32), mX3_howManyBy_L9 n fc fra fst v1 k v4 v6 v7 = some (x6) → ∀ ls : Array Slot, lv_has ls 8 [(0, .ref oI), (1, .int v1), (4, .long v4), (6, .int v6), (7, .int v7)] → (∀ ls : Array Slot, lv_has ls 8 [(6, .int x6)] → W p l e R s m args below meth c H locs cells slots Q (F0 m 62 ls [])) → W p l e R s m args below meth c H locs cells slots Q (F0 m 9 ls []) := by
  intro k
  induction k with
  | zero => intro v4 v6 v7 x6 hm; rw [mX3_howManyBy_L9] at hm; cases hm
  | succ k ih =>
    intro v4 v6 v7 x6 hm ls hl K0
    rw [mX3_howManyBy_L9] at hm
    refine lv_iload hx hb dX3_howManyBy_9 (lv_at hl 4 rfl) ?_
    refine lv_aload_n hx hb dX3_howManyBy_11 rfl (lv_at hl 0 rfl) ?_
    refine va_get (D := D) (ci := 3) (v := .ref oF) (C := RX3) (T := TX3) (N := 2) hx hb hts tnX3 hown hK hP 0 rfl rfl 0 (by decide) (hts _ qw_218) (fun _ h9 => h9) rfl dX3_howManyBy_12 ?_
    refine va_get (D := D) (ci := 1) (v := .int fc) (C := RX1) (T := TX1) (N := 8) hx hb hts tnX1 hown hK hP 1 rfl rfl 1 (by decide) (hts _ qw_219) (fun _ h9 => h9) rfl dX3_howManyBy_15 ?_
    refine lv_icmp_ge (tgt := 62) hx hb dX3_howManyBy_18 (by decide) (fun c2 => ?_) (fun c2 => ?_)
    · rw [if_pos c2] at hm
      have hm := Option.some.inj hm
      have e9 : x6 = v6 := (congrArg (fun q => q) hm).symm
      rw [e9] at K0
      exact K0 ls (lv_sub hl [3] rfl)
    · rw [if_neg c2] at hm
      refine lv_lload hx hb dX3_howManyBy_21 (lv_at hl 2 rfl) ?_
      refine lv_iload hx hb dX3_howManyBy_23 (lv_at hl 4 rfl) ?_
      refine lv_lushr (v := (jlushr v4 v7)) hx hb dX3_howManyBy_25 rfl ?_
      refine lv_lconst (v := (1 : Int64)) hx hb dX3_howManyBy_26 (by decide) ?_
      refine lv_land hx hb dX3_howManyBy_27 ?_
      refine lv_lconst (v := (0 : Int64)) hx hb dX3_howManyBy_28 (by decide) ?_
      refine W.lcmp hx hb dX3_howManyBy_29 ?_
      obtain ⟨j3, j4, hi5, hm⟩ := jb_out2 hm
      have key6 : ∀ (ls : Array Slot), lv_has ls 8 [(4, .long j3), (6, .int j4), (0, .ref oI), (1, .int v1), (7, .int v7)] → W p l e R s m args below meth c H locs cells slots Q (F0 m 56 ls []) := by
        intro ls hl
        refine lv_iinc (v := (v7 + (1 : Int32))) (lv' := [(7, .int (v7 + (1 : Int32))), (4, .long j3), (6, .int j4), (0, .ref oI), (1, .int v1)]) hx hb dX3_howManyBy_56 hl (k := 4) rfl (by rfl) (by decide) rfl (fun ls hl => ?_)
        refine lv_goto (tgt := 9) hx hb dX3_howManyBy_59 (by decide) ?_
        exact ih _ _ _ _ hm ls (lv_sub hl [3, 4, 1, 2, 0] rfl) K0
      refine lv_if_eq (tgt := 56) hx hb dX3_howManyBy_30 (by decide) (fun c7 => ?_) (fun c7 => ?_)
      · have c7 := (lg_cmp_eq ((jlushr v4 v7) &&& (1 : Int64)) (0 : Int64)).mp c7
        rw [if_pos c7] at hi5
        have hi5 := Option.some.inj hi5
        have e9 : j3 = v4 := (congrArg (fun q => q.1) hi5).symm
        rw [e9] at key6
        have e9 : j4 = v6 := (congrArg (fun q => q.2) hi5).symm
        rw [e9] at key6
        exact key6 ls (lv_sub hl [2, 3, 0, 1, 4] rfl)
      · have c7 := fun h9 => c7 ((lg_cmp_eq ((jlushr v4 v7) &&& (1 : Int64)) (0 : Int64)).mpr h9)
        rw [if_neg c7] at hi5
        refine lv_lload hx hb dX3_howManyBy_33 (lv_at hl 2 rfl) ?_
        refine lv_aload_n hx hb dX3_howManyBy_35 rfl (lv_at hl 0 rfl) ?_
        refine lv_lconst (v := (1 : Int64)) hx hb dX3_howManyBy_36 (by decide) ?_
        refine lv_iload hx hb dX3_howManyBy_37 (lv_at hl 4 rfl) ?_
        refine lv_lshl (v := (jlshl (1 : Int64) v7)) hx hb dX3_howManyBy_39 rfl ?_
        refine lv_lload hx hb dX3_howManyBy_40 (lv_at hl 2 rfl) ?_
        refine lv_iload_n hx hb dX3_howManyBy_42 rfl (lv_at hl 1 rfl) ?_
        obtain ⟨r8, h9, hi5⟩ := jb_out hi5
        refine kX3_spread ⟨hx, hb, hml, hown, hts⟩ qw_224 hP hK h9 hl.1 ⟨Nat.le_trans (by decide) hR.1, Nat.le_trans (by decide) hR.2.1, hR.2.2⟩ (Nat.le_of_ble_eq_true rfl) dX3_howManyBy_43 ?_
        refine lv_ldc2 (v := (-1 : Int64)) hx hb hown (hts _ qw_228) dX3_howManyBy_46 ?_
        refine lv_lxor hx hb dX3_howManyBy_49 ?_
        refine lv_land hx hb dX3_howManyBy_50 ?_
        refine lv_lstore (lv' := [(4, .long (v4 &&& (r8 ^^^ (-1 : Int64)))), (0, .ref oI), (1, .int v1), (6, .int v6), (7, .int v7)]) hx hb dX3_howManyBy_51 hl (by decide) rfl (fun ls hl => ?_)
        refine lv_iinc (v := (v6 + (1 : Int32))) (lv' := [(6, .int (v6 + (1 : Int32))), (4, .long (v4 &&& (r8 ^^^ (-1 : Int64)))), (0, .ref oI), (1, .int v1), (7, .int v7)]) hx hb dX3_howManyBy_53 hl (k := 3) rfl (by rfl) (by decide) rfl (fun ls hl => ?_)
        have hi5 := Option.some.inj hi5
        have e9 : j3 = (v4 &&& (r8 ^^^ (-1 : Int64))) := (congrArg (fun q => q.1) hi5).symm
        rw [e9] at key6
        have e9 : j4 = (v6 + (1 : Int32)) := (congrArg (fun q => q.2) hi5).symm
        rw [e9] at key6
        exact key6 ls (lv_sub hl [1, 0, 2, 3, 4] rfl)
set_option maxHeartbeats 4000000 in
set_option maxRecDepth 100000 in
theorem bX3_howManyBy {n : Nat} {a1 : Int32} {a2 : Int64} {r : Int32} (hx : p.tables.exec = Jvm.exec) (hb : c.code = cX3_howManyBy) (hml : c.maxLocals = 8) (hown : s.vm.findClass RX3 = some m.cls) (hts : ∀ w ∈ tw, w.before args s = true) (hK : va_K D vwCl [(cI, .int), (cJ, .long)] s) (hP : va_P D vwCl (wdI cI cJ oI oF oFr oFs oFc oFw ijn fw fc fwh fbo fra fst fco fro) H) (hR : 3 ≤ R.frames ∧ 83 ≤ R.locals ∧ cells ≤ R.cells ∧ slots ≤ R.slots) (hm : mX3_howManyBy n fc fra fst a1 a2 = some r) (ls : Array Slot) (hl : lv_has ls 8 [(0, .ref oI), (1, .int a1), (2, .long a2)]) (K : ∀ (pc : Nat) (ls : Array Slot), decode cX3_howManyBy pc = .ok (.ireturn, 1) → W p l e R s m args below meth c H locs cells slots Q (F0 m pc ls [.int r])) : W p l e R s m args below meth c H locs cells slots Q (F0 m 0 ls []) := by
  unfold mX3_howManyBy at hm
  refine lv_lload_n hx hb dX3_howManyBy_0 rfl (lv_at hl 2 rfl) ?_
  refine lv_lstore (lv' := [(4, .long a2), (0, .ref oI), (1, .int a1), (2, .long a2)]) hx hb dX3_howManyBy_1 hl (by decide) rfl (fun ls hl => ?_)
  refine lv_iconst (v := (0 : Int32)) hx hb dX3_howManyBy_3 (by decide) ?_
  refine lv_istore (lv' := [(6, .int (0 : Int32)), (4, .long a2), (0, .ref oI), (1, .int a1), (2, .long a2)]) hx hb dX3_howManyBy_4 hl (by decide) rfl (fun ls hl => ?_)
  refine lv_iconst (v := (0 : Int32)) hx hb dX3_howManyBy_6 (by decide) ?_
  refine lv_istore (lv' := [(7, .int (0 : Int32)), (6, .int (0 : Int32)), (4, .long a2), (0, .ref oI), (1, .int a1), (2, .long a2)]) hx hb dX3_howManyBy_7 hl (by decide) rfl (fun ls hl => ?_)
  obtain ⟨y10, h11, hm⟩ := jb_out hm
  refine wX3_howManyBy_L9 hx hb hml hown hts hK hP hR n _ _ _ _  h11 ls (lv_sub hl [3, 4, 2, 1, 0] rfl) (fun ls hl => ?_)
  refine lv_iload hx hb dX3_howManyBy_62 (lv_at hl 0 rfl) ?_
  have hm := Option.some.inj hm
  subst hm
  exact K 64 ls dX3_howManyBy_64
set_option maxHeartbeats 4000000 in
set_option maxRecDepth 100000 in
theorem tX3_howManyBy (l : Launch) {D : va_G} {n : Nat} {a1 : Int32} {a2 : Int64} {r : Int32} (hm : mX3_howManyBy n fc fra fst a1 a2 = some r) : Met l yX3_howManyBy (.code yX3_howManyBy cX3_howManyBy 8 (some .int) :: tw) ({ frames := 3, cells := 0, slots := 0, locals := 83 } : Room) (rdP D [.ref oI, .int a1, .long a2] (wdI cI cJ oI oF oFr oFs oFc oFw ijn fw fc fwh fbo fra fst fco fro) [(cI, .int), (cJ, .long)]) (vp_Si (fun q => q = r)) 0 0 (fun _ => False) := by
  refine Met.ofW (cc := cX3_howManyBy) (maxL := 8) (ret := (some .int)) (by decide) rfl ?_
  intro p e s m args below meth c s₁ B hml hv
  obtain ⟨rfl, hP, hK⟩ := hv
  have hx := B.exec
  have hb := B.bytes
  have hr := B.returns
  have hts : ∀ w ∈ tw, w.before _ s = true := fun w h => atoms_spec (ws := .code yX3_howManyBy cX3_howManyBy 8 (some .int) :: tw) B.pre w (List.mem_cons_of_mem _ h)
  have hown : s.vm.findClass RX3 = some m.cls := findClass_of_methodNamed B.named
  have hlocks := B.notSynchronized
  have hl := lv_entry ([.ref oI, .int a1, .long a2]) (n := 8) (Nat.le_of_ble_eq_true rfl)
  rw [lg_entry_eq]
  generalize (lg_sl ([.ref oI, .int a1, .long a2]) ++ List.replicate (8 - (lg_sl ([.ref oI, .int a1, .long a2])).length) Slot.unset).toArray = ls at hl ⊢
  refine bX3_howManyBy hx hb hml hown hts hK hP ⟨Nat.le_of_ble_eq_true rfl, Nat.le_of_ble_eq_true rfl, Nat.zero_le _, Nat.zero_le _⟩ hm ls hl (fun pc ls hd => ?_)
  exact W.iret hx hb hr (fun t ht hW => ⟨r, rfl, rfl, ht⟩) (fun q h => by cases h) hd
set_option maxHeartbeats 4000000 in
set_option maxRecDepth 100000 in
theorem kX3_howManyBy {own : String} {cc : ByteArray} {nL idx pc : Nat} {ls : Array Slot} {rest : List Value} {n : Nat} {a1 : Int32} {a2 : Int64} {r : Int32} (fx : CallFix p m c cc nL s args tw own) (hq : Cond.methodLink own idx yX3_howManyBy ∈ tw) (hP : va_P D vwCl (wdI cI cJ oI oF oFr oFs oFc oFw ijn fw fc fwh fbo fra fst fco fro) H) (hK : va_K D vwCl [(cI, .int), (cJ, .long)] s) (hm : mX3_howManyBy n fc fra fst a1 a2 = some r) (hsz : ls.size = nL) (hR : 4 ≤ R.frames ∧ 110 ≤ R.locals ∧ cells ≤ R.cells ∧ slots ≤ R.slots) (hst : (rest.map fun v => v.category).sum ≤ 8) (hd : decode cc pc = .ok (.invokevirtual idx, 3)) (kk : W p l e R s m args below meth c H locs cells slots Q (F0 m (pc + 3) ls (.int r :: rest))) : W p l e R s m args below meth c H locs cells slots Q (F0 m pc ls (.long a2 :: .int a1 :: .ref oI :: rest)) := by
  exact vp_callSi (va_Run.run (va_runV (As := [.int a1, .long a2]) (rest := rest) fx (tX3_howManyBy l hm) (cwV 2 fx.2.2.2.2 (tw_V hq qw_229 qw_230 qw_216 qw_231) rfl rfl rfl (by decide +kernel) ⟨hR.1, hR.2.1⟩) ⟨rdP_bl, va_recv hK hP (ci := 3) (q0 := 0) rfl rfl, rdP_ok hP hK⟩ rfl rfl hsz rfl (lv_room hst) hd ⟨hR.2.2.1, hR.2.2.2⟩)) (fun r9 hr9 => by first | (rw [hr9]; exact kk) | (rw [hr9.1]; exact kk))
-- X3_howMany
def mX3_howMany (n : Nat) (fc : Int32) (fra : Nat → Int32) (fst : Nat → Int64) (ijn : Int32) (a1 : Int64) : Option Int32 :=
  jb (mX3_howManyBy n fc fra fst ijn a1) (fun (r1 : Int32) => (some r1))
theorem dX3_howMany_0 : decode cX3_howMany 0 = .ok (.aload_n 0, 1) := by decide +kernel
theorem dX3_howMany_1 : decode cX3_howMany 1 = .ok (.aload_n 0, 1) := by decide +kernel
theorem dX3_howMany_2 : decode cX3_howMany 2 = .ok (.getfield 9, 3) := by decide +kernel
theorem dX3_howMany_5 : decode cX3_howMany 5 = .ok (.lload_n 1, 1) := by decide +kernel
theorem dX3_howMany_6 : decode cX3_howMany 6 = .ok (.invokevirtual 21, 3) := by decide +kernel
theorem dX3_howMany_9 : decode cX3_howMany 9 = .ok (.ireturn, 1) := by decide +kernel
set_option maxHeartbeats 4000000 in
set_option maxRecDepth 100000 in
theorem bX3_howMany {n : Nat} {a1 : Int64} {r : Int32} (hx : p.tables.exec = Jvm.exec) (hb : c.code = cX3_howMany) (hml : c.maxLocals = 3) (hown : s.vm.findClass RX3 = some m.cls) (hts : ∀ w ∈ tw, w.before args s = true) (hK : va_K D vwCl [(cI, .int), (cJ, .long)] s) (hP : va_P D vwCl (wdI cI cJ oI oF oFr oFs oFc oFw ijn fw fc fwh fbo fra fst fco fro) H) (hR : 4 ≤ R.frames ∧ 110 ≤ R.locals ∧ cells ≤ R.cells ∧ slots ≤ R.slots) (hm : mX3_howMany n fc fra fst ijn a1 = some r) (ls : Array Slot) (hl : lv_has ls 3 [(0, .ref oI), (1, .long a1)]) (K : ∀ (pc : Nat) (ls : Array Slot), decode cX3_howMany pc = .ok (.ireturn, 1) → W p l e R s m args below meth c H locs cells slots Q (F0 m pc ls [.int r])) : W p l e R s m args below meth c H locs cells slots Q (F0 m 0 ls []) := by
  unfold mX3_howMany at hm
  refine lv_aload_n hx hb dX3_howMany_0 rfl (lv_at hl 0 rfl) ?_
  refine lv_aload_n hx hb dX3_howMany_1 rfl (lv_at hl 0 rfl) ?_
  refine va_get (D := D) (ci := 3) (v := .int ijn) (C := RX3) (T := TX3) (N := 2) hx hb hts tnX3 hown hK hP 0 rfl rfl 1 (by decide) (hts _ qw_213) (fun _ h9 => h9) rfl dX3_howMany_2 ?_
  refine lv_lload_n hx hb dX3_howMany_5 rfl (lv_at hl 1 rfl) ?_
  obtain ⟨r1, h2, hm⟩ := jb_out hm
  refine kX3_howManyBy ⟨hx, hb, hml, hown, hts⟩ qw_232 hP hK h2 hl.1 ⟨Nat.le_trans (by decide) hR.1, Nat.le_trans (by decide) hR.2.1, hR.2.2⟩ (Nat.le_of_ble_eq_true rfl) dX3_howMany_6 ?_
  have hm := Option.some.inj hm
  subst hm
  exact K 9 ls dX3_howMany_9
set_option maxHeartbeats 4000000 in
set_option maxRecDepth 100000 in
theorem tX3_howMany (l : Launch) {D : va_G} {n : Nat} {a1 : Int64} {r : Int32} (hm : mX3_howMany n fc fra fst ijn a1 = some r) : Met l yX3_howMany (.code yX3_howMany cX3_howMany 3 (some .int) :: tw) ({ frames := 4, cells := 0, slots := 0, locals := 110 } : Room) (rdP D [.ref oI, .long a1] (wdI cI cJ oI oF oFr oFs oFc oFw ijn fw fc fwh fbo fra fst fco fro) [(cI, .int), (cJ, .long)]) (vp_Si (fun q => q = r)) 0 0 (fun _ => False) := by
  refine Met.ofW (cc := cX3_howMany) (maxL := 3) (ret := (some .int)) (by decide) rfl ?_
  intro p e s m args below meth c s₁ B hml hv
  obtain ⟨rfl, hP, hK⟩ := hv
  have hx := B.exec
  have hb := B.bytes
  have hr := B.returns
  have hts : ∀ w ∈ tw, w.before _ s = true := fun w h => atoms_spec (ws := .code yX3_howMany cX3_howMany 3 (some .int) :: tw) B.pre w (List.mem_cons_of_mem _ h)
  have hown : s.vm.findClass RX3 = some m.cls := findClass_of_methodNamed B.named
  have hlocks := B.notSynchronized
  have hl := lv_entry ([.ref oI, .long a1]) (n := 3) (Nat.le_of_ble_eq_true rfl)
  rw [lg_entry_eq]
  generalize (lg_sl ([.ref oI, .long a1]) ++ List.replicate (3 - (lg_sl ([.ref oI, .long a1])).length) Slot.unset).toArray = ls at hl ⊢
  refine bX3_howMany hx hb hml hown hts hK hP ⟨Nat.le_of_ble_eq_true rfl, Nat.le_of_ble_eq_true rfl, Nat.zero_le _, Nat.zero_le _⟩ hm ls hl (fun pc ls hd => ?_)
  exact W.iret hx hb hr (fun t ht hW => ⟨r, rfl, rfl, ht⟩) (fun q h => by cases h) hd
set_option maxHeartbeats 4000000 in
set_option maxRecDepth 100000 in
theorem kX3_howMany {own : String} {cc : ByteArray} {nL idx pc : Nat} {ls : Array Slot} {rest : List Value} {n : Nat} {a1 : Int64} {r : Int32} (fx : CallFix p m c cc nL s args tw own) (hq : Cond.methodLink own idx yX3_howMany ∈ tw) (hP : va_P D vwCl (wdI cI cJ oI oF oFr oFs oFc oFw ijn fw fc fwh fbo fra fst fco fro) H) (hK : va_K D vwCl [(cI, .int), (cJ, .long)] s) (hm : mX3_howMany n fc fra fst ijn a1 = some r) (hsz : ls.size = nL) (hR : 5 ≤ R.frames ∧ 132 ≤ R.locals ∧ cells ≤ R.cells ∧ slots ≤ R.slots) (hst : (rest.map fun v => v.category).sum ≤ 8) (hd : decode cc pc = .ok (.invokevirtual idx, 3)) (kk : W p l e R s m args below meth c H locs cells slots Q (F0 m (pc + 3) ls (.int r :: rest))) : W p l e R s m args below meth c H locs cells slots Q (F0 m pc ls (.long a1 :: .ref oI :: rest)) := by
  exact vp_callSi (va_Run.run (va_runV (As := [.long a1]) (rest := rest) fx (tX3_howMany l hm) (cwV 1 fx.2.2.2.2 (tw_V hq qw_233 qw_234 qw_216 qw_235) rfl rfl rfl (by decide +kernel) ⟨hR.1, hR.2.1⟩) ⟨rdP_bl, va_recv hK hP (ci := 3) (q0 := 0) rfl rfl, rdP_ok hP hK⟩ rfl rfl hsz rfl (lv_room hst) hd ⟨hR.2.2.1, hR.2.2.2⟩)) (fun r9 hr9 => by first | (rw [hr9]; exact kk) | (rw [hr9.1]; exact kk))
-- X3_holesOf
def mX3_holesOf (n : Nat) (fc : Int32) (fra : Nat → Int32) (fst : Nat → Int64) (fwh : Int64) (fbo : Int64) (ijn : Int32) (a1 : Int64) : Option Int64 :=
  jb (mX3_spread n fc fra fst ((fwh &&& (a1 ^^^ (-1 : Int64))) &&& fbo) (fwh &&& (a1 ^^^ (-1 : Int64))) (mX3_otherJoin ijn)) (fun (r2 : Int64) => (some ((fwh &&& (a1 ^^^ (-1 : Int64))) &&& (r2 ^^^ (-1 : Int64)))))
theorem dX3_holesOf_0 : decode cX3_holesOf 0 = .ok (.aload_n 0, 1) := by decide +kernel
theorem dX3_holesOf_1 : decode cX3_holesOf 1 = .ok (.getfield 13, 3) := by decide +kernel
theorem dX3_holesOf_4 : decode cX3_holesOf 4 = .ok (.getfield 33, 3) := by decide +kernel
theorem dX3_holesOf_7 : decode cX3_holesOf 7 = .ok (.lload_n 1, 1) := by decide +kernel
theorem dX3_holesOf_8 : decode cX3_holesOf 8 = .ok (.ldc2_w 39, 3) := by decide +kernel
theorem dX3_holesOf_11 : decode cX3_holesOf 11 = .ok (.lxor, 1) := by decide +kernel
theorem dX3_holesOf_12 : decode cX3_holesOf 12 = .ok (.land, 1) := by decide +kernel
theorem dX3_holesOf_13 : decode cX3_holesOf 13 = .ok (.lstore_n 3, 1) := by decide +kernel
theorem dX3_holesOf_14 : decode cX3_holesOf 14 = .ok (.lload_n 3, 1) := by decide +kernel
theorem dX3_holesOf_15 : decode cX3_holesOf 15 = .ok (.aload_n 0, 1) := by decide +kernel
theorem dX3_holesOf_16 : decode cX3_holesOf 16 = .ok (.lload_n 3, 1) := by decide +kernel
theorem dX3_holesOf_17 : decode cX3_holesOf 17 = .ok (.aload_n 0, 1) := by decide +kernel
theorem dX3_holesOf_18 : decode cX3_holesOf 18 = .ok (.getfield 13, 3) := by decide +kernel
theorem dX3_holesOf_21 : decode cX3_holesOf 21 = .ok (.getfield 41, 3) := by decide +kernel
theorem dX3_holesOf_24 : decode cX3_holesOf 24 = .ok (.land, 1) := by decide +kernel
theorem dX3_holesOf_25 : decode cX3_holesOf 25 = .ok (.lload_n 3, 1) := by decide +kernel
theorem dX3_holesOf_26 : decode cX3_holesOf 26 = .ok (.aload_n 0, 1) := by decide +kernel
theorem dX3_holesOf_27 : decode cX3_holesOf 27 = .ok (.invokevirtual 25, 3) := by decide +kernel
theorem dX3_holesOf_30 : decode cX3_holesOf 30 = .ok (.invokevirtual 17, 3) := by decide +kernel
theorem dX3_holesOf_33 : decode cX3_holesOf 33 = .ok (.ldc2_w 39, 3) := by decide +kernel
theorem dX3_holesOf_36 : decode cX3_holesOf 36 = .ok (.lxor, 1) := by decide +kernel
theorem dX3_holesOf_37 : decode cX3_holesOf 37 = .ok (.land, 1) := by decide +kernel
theorem dX3_holesOf_38 : decode cX3_holesOf 38 = .ok (.lreturn, 1) := by decide +kernel
set_option maxHeartbeats 4000000 in
set_option maxRecDepth 100000 in
theorem bX3_holesOf {n : Nat} {a1 : Int64} {r : Int64} (hx : p.tables.exec = Jvm.exec) (hb : c.code = cX3_holesOf) (hml : c.maxLocals = 5) (hown : s.vm.findClass RX3 = some m.cls) (hts : ∀ w ∈ tw, w.before args s = true) (hK : va_K D vwCl [(cI, .int), (cJ, .long)] s) (hP : va_P D vwCl (wdI cI cJ oI oF oFr oFs oFc oFw ijn fw fc fwh fbo fra fst fco fro) H) (hR : 3 ≤ R.frames ∧ 83 ≤ R.locals ∧ cells ≤ R.cells ∧ slots ≤ R.slots) (hm : mX3_holesOf n fc fra fst fwh fbo ijn a1 = some r) (ls : Array Slot) (hl : lv_has ls 5 [(0, .ref oI), (1, .long a1)]) (K : ∀ (pc : Nat) (ls : Array Slot), decode cX3_holesOf pc = .ok (.lreturn, 1) → W p l e R s m args below meth c H locs cells slots Q (F0 m pc ls [.long r])) : W p l e R s m args below meth c H locs cells slots Q (F0 m 0 ls []) := by
  unfold mX3_holesOf at hm
  refine lv_aload_n hx hb dX3_holesOf_0 rfl (lv_at hl 0 rfl) ?_
  refine va_get (D := D) (ci := 3) (v := .ref oF) (C := RX3) (T := TX3) (N := 2) hx hb hts tnX3 hown hK hP 0 rfl rfl 0 (by decide) (hts _ qw_218) (fun _ h9 => h9) rfl dX3_holesOf_1 ?_
  refine va_get (D := D) (ci := 1) (v := .long fwh) (C := RX1) (T := TX1) (N := 8) hx hb hts tnX1 hown hK hP 1 rfl rfl 2 (by decide) (hts _ qw_236) (fun _ h9 => h9) rfl dX3_holesOf_4 ?_
  refine lv_lload_n hx hb dX3_holesOf_7 rfl (lv_at hl 1 rfl) ?_
  refine lv_ldc2 (v := (-1 : Int64)) hx hb hown (hts _ qw_228) dX3_holesOf_8 ?_
  refine lv_lxor hx hb dX3_holesOf_11 ?_
  refine lv_land hx hb dX3_holesOf_12 ?_
  refine lv_lstore_n (lv' := [(3, .long (fwh &&& (a1 ^^^ (-1 : Int64)))), (0, .ref oI), (1, .long a1)]) hx hb dX3_holesOf_13 rfl hl (by decide) rfl (fun ls hl => ?_)
  refine lv_lload_n hx hb dX3_holesOf_14 rfl (lv_at hl 0 rfl) ?_
  refine lv_aload_n hx hb dX3_holesOf_15 rfl (lv_at hl 1 rfl) ?_
  refine lv_lload_n hx hb dX3_holesOf_16 rfl (lv_at hl 0 rfl) ?_
  refine lv_aload_n hx hb dX3_holesOf_17 rfl (lv_at hl 1 rfl) ?_
  refine va_get (D := D) (ci := 3) (v := .ref oF) (C := RX3) (T := TX3) (N := 2) hx hb hts tnX3 hown hK hP 0 rfl rfl 0 (by decide) (hts _ qw_218) (fun _ h9 => h9) rfl dX3_holesOf_18 ?_
  refine va_get (D := D) (ci := 1) (v := .long fbo) (C := RX1) (T := TX1) (N := 8) hx hb hts tnX1 hown hK hP 1 rfl rfl 3 (by decide) (hts _ qw_237) (fun _ h9 => h9) rfl dX3_holesOf_21 ?_
  refine lv_land hx hb dX3_holesOf_24 ?_
  refine lv_lload_n hx hb dX3_holesOf_25 rfl (lv_at hl 0 rfl) ?_
  refine lv_aload_n hx hb dX3_holesOf_26 rfl (lv_at hl 1 rfl) ?_
  refine kX3_otherJoin ⟨hx, hb, hml, hown, hts⟩ qw_238 hP hK hl.1 ⟨Nat.le_trans (by decide) hR.1, Nat.le_trans (by decide) hR.2.1, hR.2.2⟩ (Nat.le_of_ble_eq_true rfl) dX3_holesOf_27 ?_
  obtain ⟨r2, h3, hm⟩ := jb_out hm
  refine kX3_spread ⟨hx, hb, hml, hown, hts⟩ qw_224 hP hK h3 hl.1 ⟨Nat.le_trans (by decide) hR.1, Nat.le_trans (by decide) hR.2.1, hR.2.2⟩ (Nat.le_of_ble_eq_true rfl) dX3_holesOf_30 ?_
  refine lv_ldc2 (v := (-1 : Int64)) hx hb hown (hts _ qw_228) dX3_holesOf_33 ?_
  refine lv_lxor hx hb dX3_holesOf_36 ?_
  refine lv_land hx hb dX3_holesOf_37 ?_
  have hm := Option.some.inj hm
  subst hm
  exact K 38 ls dX3_holesOf_38
set_option maxHeartbeats 4000000 in
set_option maxRecDepth 100000 in
theorem tX3_holesOf (l : Launch) {D : va_G} {n : Nat} {a1 : Int64} {r : Int64} (hm : mX3_holesOf n fc fra fst fwh fbo ijn a1 = some r) : Met l yX3_holesOf (.code yX3_holesOf cX3_holesOf 5 (some .long) :: tw) ({ frames := 3, cells := 0, slots := 0, locals := 83 } : Room) (rdP D [.ref oI, .long a1] (wdI cI cJ oI oF oFr oFs oFc oFw ijn fw fc fwh fbo fra fst fco fro) [(cI, .int), (cJ, .long)]) (vp_Sl (fun q => q = r)) 0 0 (fun _ => False) := by
  refine Met.ofW (cc := cX3_holesOf) (maxL := 5) (ret := (some .long)) (by decide) rfl ?_
  intro p e s m args below meth c s₁ B hml hv
  obtain ⟨rfl, hP, hK⟩ := hv
  have hx := B.exec
  have hb := B.bytes
  have hr := B.returns
  have hts : ∀ w ∈ tw, w.before _ s = true := fun w h => atoms_spec (ws := .code yX3_holesOf cX3_holesOf 5 (some .long) :: tw) B.pre w (List.mem_cons_of_mem _ h)
  have hown : s.vm.findClass RX3 = some m.cls := findClass_of_methodNamed B.named
  have hlocks := B.notSynchronized
  have hl := lv_entry ([.ref oI, .long a1]) (n := 5) (Nat.le_of_ble_eq_true rfl)
  rw [lg_entry_eq]
  generalize (lg_sl ([.ref oI, .long a1]) ++ List.replicate (5 - (lg_sl ([.ref oI, .long a1])).length) Slot.unset).toArray = ls at hl ⊢
  refine bX3_holesOf hx hb hml hown hts hK hP ⟨Nat.le_of_ble_eq_true rfl, Nat.le_of_ble_eq_true rfl, Nat.zero_le _, Nat.zero_le _⟩ hm ls hl (fun pc ls hd => ?_)
  exact W.lret hx hb hr (fun t ht hW => ⟨r, rfl, rfl, ht⟩) (fun q h => by cases h) hd
set_option maxHeartbeats 4000000 in
set_option maxRecDepth 100000 in
theorem kX3_holesOf {own : String} {cc : ByteArray} {nL idx pc : Nat} {ls : Array Slot} {rest : List Value} {n : Nat} {a1 : Int64} {r : Int64} (fx : CallFix p m c cc nL s args tw own) (hq : Cond.methodLink own idx yX3_holesOf ∈ tw) (hP : va_P D vwCl (wdI cI cJ oI oF oFr oFs oFc oFw ijn fw fc fwh fbo fra fst fco fro) H) (hK : va_K D vwCl [(cI, .int), (cJ, .long)] s) (hm : mX3_holesOf n fc fra fst fwh fbo ijn a1 = some r) (hsz : ls.size = nL) (hR : 4 ≤ R.frames ∧ 107 ≤ R.locals ∧ cells ≤ R.cells ∧ slots ≤ R.slots) (hst : (rest.map fun v => v.category).sum ≤ 8) (hd : decode cc pc = .ok (.invokevirtual idx, 3)) (kk : W p l e R s m args below meth c H locs cells slots Q (F0 m (pc + 3) ls (.long r :: rest))) : W p l e R s m args below meth c H locs cells slots Q (F0 m pc ls (.long a1 :: .ref oI :: rest)) := by
  exact vp_callSl (va_Run.run (va_runV (As := [.long a1]) (rest := rest) fx (tX3_holesOf l hm) (cwV 1 fx.2.2.2.2 (tw_V hq qw_239 qw_240 qw_216 qw_241) rfl rfl rfl (by decide +kernel) ⟨hR.1, hR.2.1⟩) ⟨rdP_bl, va_recv hK hP (ci := 3) (q0 := 0) rfl rfl, rdP_ok hP hK⟩ rfl rfl hsz rfl (lv_room hst) hd ⟨hR.2.2.1, hR.2.2.2⟩)) (fun r9 hr9 => by first | (rw [hr9]; exact kk) | (rw [hr9.1]; exact kk))
-- X3_howManyHoles
def mX3_howManyHoles (n : Nat) (fc : Int32) (fra : Nat → Int32) (fst : Nat → Int64) (fwh : Int64) (fbo : Int64) (ijn : Int32) (a1 : Int64) : Option Int32 :=
  jb (mX3_holesOf n fc fra fst fwh fbo ijn a1) (fun (r2 : Int64) => jb (mX3_howManyBy n fc fra fst (mX3_otherJoin ijn) r2) (fun (r4 : Int32) => (some r4)))
theorem dX3_howManyHoles_0 : decode cX3_howManyHoles 0 = .ok (.aload_n 0, 1) := by decide +kernel
theorem dX3_howManyHoles_1 : decode cX3_howManyHoles 1 = .ok (.aload_n 0, 1) := by decide +kernel
theorem dX3_howManyHoles_2 : decode cX3_howManyHoles 2 = .ok (.invokevirtual 25, 3) := by decide +kernel
theorem dX3_howManyHoles_5 : decode cX3_howManyHoles 5 = .ok (.aload_n 0, 1) := by decide +kernel
theorem dX3_howManyHoles_6 : decode cX3_howManyHoles 6 = .ok (.lload_n 1, 1) := by decide +kernel
theorem dX3_howManyHoles_7 : decode cX3_howManyHoles 7 = .ok (.invokevirtual 29, 3) := by decide +kernel
theorem dX3_howManyHoles_10 : decode cX3_howManyHoles 10 = .ok (.invokevirtual 21, 3) := by decide +kernel
theorem dX3_howManyHoles_13 : decode cX3_howManyHoles 13 = .ok (.ireturn, 1) := by decide +kernel
set_option maxHeartbeats 4000000 in
set_option maxRecDepth 100000 in
theorem bX3_howManyHoles {n : Nat} {a1 : Int64} {r : Int32} (hx : p.tables.exec = Jvm.exec) (hb : c.code = cX3_howManyHoles) (hml : c.maxLocals = 3) (hown : s.vm.findClass RX3 = some m.cls) (hts : ∀ w ∈ tw, w.before args s = true) (hK : va_K D vwCl [(cI, .int), (cJ, .long)] s) (hP : va_P D vwCl (wdI cI cJ oI oF oFr oFs oFc oFw ijn fw fc fwh fbo fra fst fco fro) H) (hR : 4 ≤ R.frames ∧ 110 ≤ R.locals ∧ cells ≤ R.cells ∧ slots ≤ R.slots) (hm : mX3_howManyHoles n fc fra fst fwh fbo ijn a1 = some r) (ls : Array Slot) (hl : lv_has ls 3 [(0, .ref oI), (1, .long a1)]) (K : ∀ (pc : Nat) (ls : Array Slot), decode cX3_howManyHoles pc = .ok (.ireturn, 1) → W p l e R s m args below meth c H locs cells slots Q (F0 m pc ls [.int r])) : W p l e R s m args below meth c H locs cells slots Q (F0 m 0 ls []) := by
  unfold mX3_howManyHoles at hm
  refine lv_aload_n hx hb dX3_howManyHoles_0 rfl (lv_at hl 0 rfl) ?_
  refine lv_aload_n hx hb dX3_howManyHoles_1 rfl (lv_at hl 0 rfl) ?_
  refine kX3_otherJoin ⟨hx, hb, hml, hown, hts⟩ qw_238 hP hK hl.1 ⟨Nat.le_trans (by decide) hR.1, Nat.le_trans (by decide) hR.2.1, hR.2.2⟩ (Nat.le_of_ble_eq_true rfl) dX3_howManyHoles_2 ?_
  refine lv_aload_n hx hb dX3_howManyHoles_5 rfl (lv_at hl 0 rfl) ?_
  refine lv_lload_n hx hb dX3_howManyHoles_6 rfl (lv_at hl 1 rfl) ?_
  obtain ⟨r2, h3, hm⟩ := jb_out hm
  refine kX3_holesOf ⟨hx, hb, hml, hown, hts⟩ qw_242 hP hK h3 hl.1 ⟨Nat.le_trans (by decide) hR.1, Nat.le_trans (by decide) hR.2.1, hR.2.2⟩ (Nat.le_of_ble_eq_true rfl) dX3_howManyHoles_7 ?_
  obtain ⟨r4, h5, hm⟩ := jb_out hm
  refine kX3_howManyBy ⟨hx, hb, hml, hown, hts⟩ qw_232 hP hK h5 hl.1 ⟨Nat.le_trans (by decide) hR.1, Nat.le_trans (by decide) hR.2.1, hR.2.2⟩ (Nat.le_of_ble_eq_true rfl) dX3_howManyHoles_10 ?_
  have hm := Option.some.inj hm
  subst hm
  exact K 13 ls dX3_howManyHoles_13
set_option maxHeartbeats 4000000 in
set_option maxRecDepth 100000 in
theorem tX3_howManyHoles (l : Launch) {D : va_G} {n : Nat} {a1 : Int64} {r : Int32} (hm : mX3_howManyHoles n fc fra fst fwh fbo ijn a1 = some r) : Met l yX3_howManyHoles (.code yX3_howManyHoles cX3_howManyHoles 3 (some .int) :: tw) ({ frames := 4, cells := 0, slots := 0, locals := 110 } : Room) (rdP D [.ref oI, .long a1] (wdI cI cJ oI oF oFr oFs oFc oFw ijn fw fc fwh fbo fra fst fco fro) [(cI, .int), (cJ, .long)]) (vp_Si (fun q => q = r)) 0 0 (fun _ => False) := by
  refine Met.ofW (cc := cX3_howManyHoles) (maxL := 3) (ret := (some .int)) (by decide) rfl ?_
  intro p e s m args below meth c s₁ B hml hv
  obtain ⟨rfl, hP, hK⟩ := hv
  have hx := B.exec
  have hb := B.bytes
  have hr := B.returns
  have hts : ∀ w ∈ tw, w.before _ s = true := fun w h => atoms_spec (ws := .code yX3_howManyHoles cX3_howManyHoles 3 (some .int) :: tw) B.pre w (List.mem_cons_of_mem _ h)
  have hown : s.vm.findClass RX3 = some m.cls := findClass_of_methodNamed B.named
  have hlocks := B.notSynchronized
  have hl := lv_entry ([.ref oI, .long a1]) (n := 3) (Nat.le_of_ble_eq_true rfl)
  rw [lg_entry_eq]
  generalize (lg_sl ([.ref oI, .long a1]) ++ List.replicate (3 - (lg_sl ([.ref oI, .long a1])).length) Slot.unset).toArray = ls at hl ⊢
  refine bX3_howManyHoles hx hb hml hown hts hK hP ⟨Nat.le_of_ble_eq_true rfl, Nat.le_of_ble_eq_true rfl, Nat.zero_le _, Nat.zero_le _⟩ hm ls hl (fun pc ls hd => ?_)
  exact W.iret hx hb hr (fun t ht hW => ⟨r, rfl, rfl, ht⟩) (fun q h => by cases h) hd
set_option maxHeartbeats 4000000 in
set_option maxRecDepth 100000 in
theorem kX3_howManyHoles {own : String} {cc : ByteArray} {nL idx pc : Nat} {ls : Array Slot} {rest : List Value} {n : Nat} {a1 : Int64} {r : Int32} (fx : CallFix p m c cc nL s args tw own) (hq : Cond.methodLink own idx yX3_howManyHoles ∈ tw) (hP : va_P D vwCl (wdI cI cJ oI oF oFr oFs oFc oFw ijn fw fc fwh fbo fra fst fco fro) H) (hK : va_K D vwCl [(cI, .int), (cJ, .long)] s) (hm : mX3_howManyHoles n fc fra fst fwh fbo ijn a1 = some r) (hsz : ls.size = nL) (hR : 5 ≤ R.frames ∧ 132 ≤ R.locals ∧ cells ≤ R.cells ∧ slots ≤ R.slots) (hst : (rest.map fun v => v.category).sum ≤ 8) (hd : decode cc pc = .ok (.invokevirtual idx, 3)) (kk : W p l e R s m args below meth c H locs cells slots Q (F0 m (pc + 3) ls (.int r :: rest))) : W p l e R s m args below meth c H locs cells slots Q (F0 m pc ls (.long a1 :: .ref oI :: rest)) := by
  exact vp_callSi (va_Run.run (va_runV (As := [.long a1]) (rest := rest) fx (tX3_howManyHoles l hm) (cwV 1 fx.2.2.2.2 (tw_V hq qw_243 qw_244 qw_216 qw_245) rfl rfl rfl (by decide +kernel) ⟨hR.1, hR.2.1⟩) ⟨rdP_bl, va_recv hK hP (ci := 3) (q0 := 0) rfl rfl, rdP_ok hP hK⟩ rfl rfl hsz rfl (lv_room hst) hd ⟨hR.2.2.1, hR.2.2.2⟩)) (fun r9 hr9 => by first | (rw [hr9]; exact kk) | (rw [hr9.1]; exact kk))
-- X2_hitIn
def mX2_hitIn_L38 (n : Nat) (fra : Nat → Int32) (fst : Nat → Int64) (v1 : Int64) (v4 : Int32) (v5 : Int32) : Nat → (Int64) → (Int32) → Option ((Int64))
  | 0, _, _ => none
  | k + 1, v6, v8 => (if (9 : Int32) ≤ v8 then some (v6) else jb (mX1_behind fra fst v1 v8) (fun (r7 : Int64) => jl (if ((v4 >>> (v8 &&& 31)) &&& (1 : Int32)) = 0 then v6 else (v6 &&& r7)) (fun j9 => jl (if ((v5 >>> (v8 &&& 31)) &&& (1 : Int32)) = 0 then j9 else (j9 &&& (r7 ^^^ (-1 : Int64)))) (fun j13 => mX2_hitIn_L38 n fra fst v1 v4 v5 k j13 (v8 + (1 : Int32))))))
def mX2_hitIn (n : Nat) (rhi : Nat → Int32) (rmi : Nat → Int32) (fra : Nat → Int32) (fst : Nat → Int64) (sst : Nat → Int32) (a1 : Int64) (a3 : Int32) : Option Int64 :=
  gd (ib a3 8) (gd (ib (rhi a3.toNatClampNeg) 4) (gd (ib a3 8) (gd (ib (rmi a3.toNatClampNeg) 4) (jb (mX2_hitIn_L38 n fra fst a1 (sst (rhi a3.toNatClampNeg).toNatClampNeg) (sst (rmi a3.toNatClampNeg).toNatClampNeg) n a1 (0 : Int32)) (fun (y17 : Int64) => (some y17))))))
theorem dX2_hitIn_0 : decode cX2_hitIn 0 = .ok (.aload_n 0, 1) := by decide +kernel
theorem dX2_hitIn_1 : decode cX2_hitIn 1 = .ok (.getfield 24, 3) := by decide +kernel
theorem dX2_hitIn_4 : decode cX2_hitIn 4 = .ok (.getfield 28, 3) := by decide +kernel
theorem dX2_hitIn_7 : decode cX2_hitIn 7 = .ok (.aload_n 0, 1) := by decide +kernel
theorem dX2_hitIn_8 : decode cX2_hitIn 8 = .ok (.getfield 9, 3) := by decide +kernel
theorem dX2_hitIn_11 : decode cX2_hitIn 11 = .ok (.iload_n 3, 1) := by decide +kernel
theorem dX2_hitIn_12 : decode cX2_hitIn 12 = .ok (.iaload, 1) := by decide +kernel
theorem dX2_hitIn_13 : decode cX2_hitIn 13 = .ok (.iaload, 1) := by decide +kernel
theorem dX2_hitIn_14 : decode cX2_hitIn 14 = .ok (.istore 4, 2) := by decide +kernel
theorem dX2_hitIn_16 : decode cX2_hitIn 16 = .ok (.aload_n 0, 1) := by decide +kernel
theorem dX2_hitIn_17 : decode cX2_hitIn 17 = .ok (.getfield 24, 3) := by decide +kernel
theorem dX2_hitIn_20 : decode cX2_hitIn 20 = .ok (.getfield 28, 3) := by decide +kernel
theorem dX2_hitIn_23 : decode cX2_hitIn 23 = .ok (.aload_n 0, 1) := by decide +kernel
theorem dX2_hitIn_24 : decode cX2_hitIn 24 = .ok (.getfield 13, 3) := by decide +kernel
theorem dX2_hitIn_27 : decode cX2_hitIn 27 = .ok (.iload_n 3, 1) := by decide +kernel
theorem dX2_hitIn_28 : decode cX2_hitIn 28 = .ok (.iaload, 1) := by decide +kernel
theorem dX2_hitIn_29 : decode cX2_hitIn 29 = .ok (.iaload, 1) := by decide +kernel
theorem dX2_hitIn_30 : decode cX2_hitIn 30 = .ok (.istore 5, 2) := by decide +kernel
theorem dX2_hitIn_32 : decode cX2_hitIn 32 = .ok (.lload_n 1, 1) := by decide +kernel
theorem dX2_hitIn_33 : decode cX2_hitIn 33 = .ok (.lstore 6, 2) := by decide +kernel
theorem dX2_hitIn_35 : decode cX2_hitIn 35 = .ok (.iconst 0, 1) := by decide +kernel
theorem dX2_hitIn_36 : decode cX2_hitIn 36 = .ok (.istore 8, 2) := by decide +kernel
theorem dX2_hitIn_38 : decode cX2_hitIn 38 = .ok (.iload 8, 2) := by decide +kernel
theorem dX2_hitIn_40 : decode cX2_hitIn 40 = .ok (.bipush 9, 2) := by decide +kernel
theorem dX2_hitIn_42 : decode cX2_hitIn 42 = .ok (.if_icmp .ge 59, 3) := by decide +kernel
theorem dX2_hitIn_45 : decode cX2_hitIn 45 = .ok (.aload_n 0, 1) := by decide +kernel
theorem dX2_hitIn_46 : decode cX2_hitIn 46 = .ok (.getfield 20, 3) := by decide +kernel
theorem dX2_hitIn_49 : decode cX2_hitIn 49 = .ok (.lload_n 1, 1) := by decide +kernel
theorem dX2_hitIn_50 : decode cX2_hitIn 50 = .ok (.iload 8, 2) := by decide +kernel
theorem dX2_hitIn_52 : decode cX2_hitIn 52 = .ok (.invokevirtual 35, 3) := by decide +kernel
theorem dX2_hitIn_55 : decode cX2_hitIn 55 = .ok (.lstore 9, 2) := by decide +kernel
theorem dX2_hitIn_57 : decode cX2_hitIn 57 = .ok (.iload 4, 2) := by decide +kernel
theorem dX2_hitIn_59 : decode cX2_hitIn 59 = .ok (.iload 8, 2) := by decide +kernel
theorem dX2_hitIn_61 : decode cX2_hitIn 61 = .ok (.ishr, 1) := by decide +kernel
theorem dX2_hitIn_62 : decode cX2_hitIn 62 = .ok (.iconst 1, 1) := by decide +kernel
theorem dX2_hitIn_63 : decode cX2_hitIn 63 = .ok (.iand, 1) := by decide +kernel
theorem dX2_hitIn_64 : decode cX2_hitIn 64 = .ok (.ifCond .eq 10, 3) := by decide +kernel
theorem dX2_hitIn_67 : decode cX2_hitIn 67 = .ok (.lload 6, 2) := by decide +kernel
theorem dX2_hitIn_69 : decode cX2_hitIn 69 = .ok (.lload 9, 2) := by decide +kernel
theorem dX2_hitIn_71 : decode cX2_hitIn 71 = .ok (.land, 1) := by decide +kernel
theorem dX2_hitIn_72 : decode cX2_hitIn 72 = .ok (.lstore 6, 2) := by decide +kernel
theorem dX2_hitIn_74 : decode cX2_hitIn 74 = .ok (.iload 5, 2) := by decide +kernel
theorem dX2_hitIn_76 : decode cX2_hitIn 76 = .ok (.iload 8, 2) := by decide +kernel
theorem dX2_hitIn_78 : decode cX2_hitIn 78 = .ok (.ishr, 1) := by decide +kernel
theorem dX2_hitIn_79 : decode cX2_hitIn 79 = .ok (.iconst 1, 1) := by decide +kernel
theorem dX2_hitIn_80 : decode cX2_hitIn 80 = .ok (.iand, 1) := by decide +kernel
theorem dX2_hitIn_81 : decode cX2_hitIn 81 = .ok (.ifCond .eq 14, 3) := by decide +kernel
theorem dX2_hitIn_84 : decode cX2_hitIn 84 = .ok (.lload 6, 2) := by decide +kernel
theorem dX2_hitIn_86 : decode cX2_hitIn 86 = .ok (.lload 9, 2) := by decide +kernel
theorem dX2_hitIn_88 : decode cX2_hitIn 88 = .ok (.ldc2_w 39, 3) := by decide +kernel
theorem dX2_hitIn_91 : decode cX2_hitIn 91 = .ok (.lxor, 1) := by decide +kernel
theorem dX2_hitIn_92 : decode cX2_hitIn 92 = .ok (.land, 1) := by decide +kernel
theorem dX2_hitIn_93 : decode cX2_hitIn 93 = .ok (.lstore 6, 2) := by decide +kernel
theorem dX2_hitIn_95 : decode cX2_hitIn 95 = .ok (.iinc 8 1, 3) := by decide +kernel
theorem dX2_hitIn_98 : decode cX2_hitIn 98 = .ok (.goto (-60), 3) := by decide +kernel
theorem dX2_hitIn_101 : decode cX2_hitIn 101 = .ok (.lload 6, 2) := by decide +kernel
theorem dX2_hitIn_103 : decode cX2_hitIn 103 = .ok (.lreturn, 1) := by decide +kernel
set_option maxHeartbeats 4000000 in
set_option maxRecDepth 100000 in
theorem wX2_hitIn_L38 {n : Nat} {v1 : Int64} {v4 : Int32} {v5 : Int32} (hx : p.tables.exec = Jvm.exec) (hb : c.code = cX2_hitIn) (hml : c.maxLocals = 11) (hown : s.vm.findClass RX2 = some m.cls) (hts : ∀ w ∈ tw, w.before args s = true) (hK : va_K D vwCl [(cI, .int), (cJ, .long)] s) (hP : va_P D vwCl (wdR cI cJ oR oRh oRm oS oSs oF oFr oFs oFc oFw rsz rhi rmi srim sst fw fc fwh fbo fra fst fco fro) H) (hR : 1 ≤ R.frames ∧ 24 ≤ R.locals ∧ cells ≤ R.cells ∧ slots ≤ R.slots) : ∀ (k : Nat) (v6 : Int64) (v8 : Int32) (x6 : Int64), mX2_hitIn_L38 n fra fst v1 v4 v5 k v6 v8 = some (x6) → ∀ ls : Array Slot, lv_has ls 11 [(0, .ref oR), (1, .long v1), (4, .int v4), (5, .int v5), (6, .long v6), (8, .int v8)] → (∀ ls : Array Slot, lv_has ls 11 [(6, .long x6)] → W p l e R s m args below meth c H locs cells slots Q (F0 m 101 ls [])) → W p l e R s m args below meth c H locs cells slots Q (F0 m 38 ls []) := by
  intro k
  induction k with
  | zero => intro v6 v8 x6 hm; rw [mX2_hitIn_L38] at hm; cases hm
  | succ k ih =>
    intro v6 v8 x6 hm ls hl K0
    rw [mX2_hitIn_L38] at hm
    refine lv_iload hx hb dX2_hitIn_38 (lv_at hl 5 rfl) ?_
    refine lv_bipush (v := (9 : Int32)) hx hb dX2_hitIn_40 (by decide) ?_
    refine lv_icmp_ge (tgt := 101) hx hb dX2_hitIn_42 (by decide) (fun c6 => ?_) (fun c6 => ?_)
    · rw [if_pos c6] at hm
      have hm := Option.some.inj hm
      have e9 : x6 = v6 := (congrArg (fun q => q) hm).symm
      rw [e9] at K0
      exact K0 ls (lv_sub hl [4] rfl)
    · rw [if_neg c6] at hm
      refine lv_aload_n hx hb dX2_hitIn_45 rfl (lv_at hl 0 rfl) ?_
      refine va_get (D := D) (ci := 2) (v := .ref oF) (C := RX2) (T := TX2) (N := 5) hx hb hts tnX2 hown hK hP 0 rfl rfl 0 (by decide) (hts _ qw_250) (fun _ h9 => h9) rfl dX2_hitIn_46 ?_
      refine lv_lload_n hx hb dX2_hitIn_49 rfl (lv_at hl 1 rfl) ?_
      refine lv_iload hx hb dX2_hitIn_50 (lv_at hl 5 rfl) ?_
      obtain ⟨r7, h8, hm⟩ := jb_out hm
      refine kX1_behind ⟨hx, hb, hml, hown, hts⟩ qw_251 (hP.sub (ws' := (wdF cI cJ oF oFr oFs oFc oFw fw fc fwh fbo fra fst fco fro)) [5, 6, 7, 8, 9] rfl) hK h8 hl.1 ⟨Nat.le_trans (by decide) hR.1, Nat.le_trans (by decide) hR.2.1, hR.2.2⟩ (Nat.le_of_ble_eq_true rfl) dX2_hitIn_52 ?_
      refine lv_lstore (lv' := [(9, .long r7), (0, .ref oR), (1, .long v1), (4, .int v4), (5, .int v5), (6, .long v6), (8, .int v8)]) hx hb dX2_hitIn_55 hl (by decide) rfl (fun ls hl => ?_)
      refine lv_iload hx hb dX2_hitIn_57 (lv_at hl 3 rfl) ?_
      refine lv_iload hx hb dX2_hitIn_59 (lv_at hl 6 rfl) ?_
      refine lv_ishr hx hb dX2_hitIn_61 ?_
      refine lv_iconst (v := (1 : Int32)) hx hb dX2_hitIn_62 (by decide) ?_
      refine lv_iand hx hb dX2_hitIn_63 ?_
      obtain ⟨j9, hi10, hm⟩ := jl_out hm
      have key11 : ∀ (ls : Array Slot), lv_has ls 11 [(6, .long j9), (9, .long r7), (0, .ref oR), (1, .long v1), (4, .int v4), (5, .int v5), (8, .int v8)] → W p l e R s m args below meth c H locs cells slots Q (F0 m 74 ls []) := by
        intro ls hl
        refine lv_iload hx hb dX2_hitIn_74 (lv_at hl 5 rfl) ?_
        refine lv_iload hx hb dX2_hitIn_76 (lv_at hl 6 rfl) ?_
        refine lv_ishr hx hb dX2_hitIn_78 ?_
        refine lv_iconst (v := (1 : Int32)) hx hb dX2_hitIn_79 (by decide) ?_
        refine lv_iand hx hb dX2_hitIn_80 ?_
        obtain ⟨j13, hi14, hm⟩ := jl_out hm
        have key15 : ∀ (ls : Array Slot), lv_has ls 11 [(6, .long j13), (0, .ref oR), (1, .long v1), (4, .int v4), (5, .int v5), (8, .int v8)] → W p l e R s m args below meth c H locs cells slots Q (F0 m 95 ls []) := by
          intro ls hl
          refine lv_iinc (v := (v8 + (1 : Int32))) (lv' := [(8, .int (v8 + (1 : Int32))), (6, .long j13), (0, .ref oR), (1, .long v1), (4, .int v4), (5, .int v5)]) hx hb dX2_hitIn_95 hl (k := 5) rfl (by rfl) (by decide) rfl (fun ls hl => ?_)
          refine lv_goto (tgt := 38) hx hb dX2_hitIn_98 (by decide) ?_
          exact ih _ _ _ hm ls (lv_sub hl [2, 3, 4, 5, 1, 0] rfl) K0
        refine lv_if_eq (tgt := 95) hx hb dX2_hitIn_81 (by decide) (fun c16 => ?_) (fun c16 => ?_)
        · rw [if_pos c16] at hi14
          rw [hi14] at key15
          exact key15 ls (lv_sub hl [0, 2, 3, 4, 5, 6] rfl)
        · rw [if_neg c16] at hi14
          refine lv_lload hx hb dX2_hitIn_84 (lv_at hl 0 rfl) ?_
          refine lv_lload hx hb dX2_hitIn_86 (lv_at hl 1 rfl) ?_
          refine lv_ldc2 (v := (-1 : Int64)) hx hb hown (hts _ qw_252) dX2_hitIn_88 ?_
          refine lv_lxor hx hb dX2_hitIn_91 ?_
          refine lv_land hx hb dX2_hitIn_92 ?_
          refine lv_lstore (lv' := [(6, .long (j9 &&& (r7 ^^^ (-1 : Int64)))), (9, .long r7), (0, .ref oR), (1, .long v1), (4, .int v4), (5, .int v5), (8, .int v8)]) hx hb dX2_hitIn_93 hl (by decide) rfl (fun ls hl => ?_)
          rw [hi14] at key15
          exact key15 ls (lv_sub hl [0, 2, 3, 4, 5, 6] rfl)
      refine lv_if_eq (tgt := 74) hx hb dX2_hitIn_64 (by decide) (fun c12 => ?_) (fun c12 => ?_)
      · rw [if_pos c12] at hi10
        rw [hi10] at key11
        exact key11 ls (lv_sub hl [5, 0, 1, 2, 3, 4, 6] rfl)
      · rw [if_neg c12] at hi10
        refine lv_lload hx hb dX2_hitIn_67 (lv_at hl 5 rfl) ?_
        refine lv_lload hx hb dX2_hitIn_69 (lv_at hl 0 rfl) ?_
        refine lv_land hx hb dX2_hitIn_71 ?_
        refine lv_lstore (lv' := [(6, .long (v6 &&& r7)), (9, .long r7), (0, .ref oR), (1, .long v1), (4, .int v4), (5, .int v5), (8, .int v8)]) hx hb dX2_hitIn_72 hl (by decide) rfl (fun ls hl => ?_)
        rw [hi10] at key11
        exact key11 ls (lv_sub hl [0, 1, 2, 3, 4, 5, 6] rfl)
set_option maxHeartbeats 4000000 in
set_option maxRecDepth 100000 in
theorem bX2_hitIn {n : Nat} {a1 : Int64} {a3 : Int32} {r : Int64} (hx : p.tables.exec = Jvm.exec) (hb : c.code = cX2_hitIn) (hml : c.maxLocals = 11) (hown : s.vm.findClass RX2 = some m.cls) (hts : ∀ w ∈ tw, w.before args s = true) (hK : va_K D vwCl [(cI, .int), (cJ, .long)] s) (hP : va_P D vwCl (wdR cI cJ oR oRh oRm oS oSs oF oFr oFs oFc oFw rsz rhi rmi srim sst fw fc fwh fbo fra fst fco fro) H) (hR : 1 ≤ R.frames ∧ 24 ≤ R.locals ∧ cells ≤ R.cells ∧ slots ≤ R.slots) (hm : mX2_hitIn n rhi rmi fra fst sst a1 a3 = some r) (ls : Array Slot) (hl : lv_has ls 11 [(0, .ref oR), (1, .long a1), (3, .int a3)]) (K : ∀ (pc : Nat) (ls : Array Slot), decode cX2_hitIn pc = .ok (.lreturn, 1) → W p l e R s m args below meth c H locs cells slots Q (F0 m pc ls [.long r])) : W p l e R s m args below meth c H locs cells slots Q (F0 m 0 ls []) := by
  unfold mX2_hitIn at hm
  refine lv_aload_n hx hb dX2_hitIn_0 rfl (lv_at hl 0 rfl) ?_
  refine va_get (D := D) (ci := 2) (v := .ref oS) (C := RX2) (T := TX2) (N := 5) hx hb hts tnX2 hown hK hP 0 rfl rfl 1 (by decide) (hts _ qw_246) (fun _ h9 => h9) rfl dX2_hitIn_1 ?_
  refine va_get (D := D) (ci := 6) (v := .ref oSs) (C := RX6) (T := TX6) (N := 3) hx hb hts tnX6 hown hK hP 3 rfl rfl 1 (by decide) (hts _ qw_247) (fun _ h9 => h9) rfl dX2_hitIn_4 ?_
  refine lv_aload_n hx hb dX2_hitIn_7 rfl (lv_at hl 0 rfl) ?_
  refine va_get (D := D) (ci := 2) (v := .ref oRh) (C := RX2) (T := TX2) (N := 5) hx hb hts tnX2 hown hK hP 0 rfl rfl 2 (by decide) (hts _ qw_248) (fun _ h9 => h9) rfl dX2_hitIn_8 ?_
  refine lv_iload_n hx hb dX2_hitIn_11 rfl (lv_at hl 2 rfl) ?_
  obtain ⟨g1, hm⟩ := gd_out hm
  refine va_iald hx hb hK hP 1 0 rfl rfl g1 dX2_hitIn_12 ?_
  obtain ⟨g2, hm⟩ := gd_out hm
  refine va_iald hx hb hK hP 4 0 rfl rfl g2 dX2_hitIn_13 ?_
  refine lv_istore (lv' := [(4, .int (sst (rhi a3.toNatClampNeg).toNatClampNeg)), (0, .ref oR), (1, .long a1), (3, .int a3)]) hx hb dX2_hitIn_14 hl (by decide) rfl (fun ls hl => ?_)
  refine lv_aload_n hx hb dX2_hitIn_16 rfl (lv_at hl 1 rfl) ?_
  refine va_get (D := D) (ci := 2) (v := .ref oS) (C := RX2) (T := TX2) (N := 5) hx hb hts tnX2 hown hK hP 0 rfl rfl 1 (by decide) (hts _ qw_246) (fun _ h9 => h9) rfl dX2_hitIn_17 ?_
  refine va_get (D := D) (ci := 6) (v := .ref oSs) (C := RX6) (T := TX6) (N := 3) hx hb hts tnX6 hown hK hP 3 rfl rfl 1 (by decide) (hts _ qw_247) (fun _ h9 => h9) rfl dX2_hitIn_20 ?_
  refine lv_aload_n hx hb dX2_hitIn_23 rfl (lv_at hl 1 rfl) ?_
  refine va_get (D := D) (ci := 2) (v := .ref oRm) (C := RX2) (T := TX2) (N := 5) hx hb hts tnX2 hown hK hP 0 rfl rfl 3 (by decide) (hts _ qw_249) (fun _ h9 => h9) rfl dX2_hitIn_24 ?_
  refine lv_iload_n hx hb dX2_hitIn_27 rfl (lv_at hl 3 rfl) ?_
  obtain ⟨g3, hm⟩ := gd_out hm
  refine va_iald hx hb hK hP 2 0 rfl rfl g3 dX2_hitIn_28 ?_
  obtain ⟨g4, hm⟩ := gd_out hm
  refine va_iald hx hb hK hP 4 0 rfl rfl g4 dX2_hitIn_29 ?_
  refine lv_istore (lv' := [(5, .int (sst (rmi a3.toNatClampNeg).toNatClampNeg)), (4, .int (sst (rhi a3.toNatClampNeg).toNatClampNeg)), (0, .ref oR), (1, .long a1), (3, .int a3)]) hx hb dX2_hitIn_30 hl (by decide) rfl (fun ls hl => ?_)
  refine lv_lload_n hx hb dX2_hitIn_32 rfl (lv_at hl 3 rfl) ?_
  refine lv_lstore (lv' := [(6, .long a1), (5, .int (sst (rmi a3.toNatClampNeg).toNatClampNeg)), (4, .int (sst (rhi a3.toNatClampNeg).toNatClampNeg)), (0, .ref oR), (1, .long a1), (3, .int a3)]) hx hb dX2_hitIn_33 hl (by decide) rfl (fun ls hl => ?_)
  refine lv_iconst (v := (0 : Int32)) hx hb dX2_hitIn_35 (by decide) ?_
  refine lv_istore (lv' := [(8, .int (0 : Int32)), (6, .long a1), (5, .int (sst (rmi a3.toNatClampNeg).toNatClampNeg)), (4, .int (sst (rhi a3.toNatClampNeg).toNatClampNeg)), (0, .ref oR), (1, .long a1), (3, .int a3)]) hx hb dX2_hitIn_36 hl (by decide) rfl (fun ls hl => ?_)
  obtain ⟨y17, h18, hm⟩ := jb_out hm
  refine wX2_hitIn_L38 hx hb hml hown hts hK hP hR n _ _ _  h18 ls (lv_sub hl [4, 5, 3, 2, 1, 0] rfl) (fun ls hl => ?_)
  refine lv_lload hx hb dX2_hitIn_101 (lv_at hl 0 rfl) ?_
  have hm := Option.some.inj hm
  subst hm
  exact K 103 ls dX2_hitIn_103
set_option maxHeartbeats 4000000 in
set_option maxRecDepth 100000 in
theorem tX2_hitIn (l : Launch) {D : va_G} {n : Nat} {a1 : Int64} {a3 : Int32} {r : Int64} (hm : mX2_hitIn n rhi rmi fra fst sst a1 a3 = some r) : Met l yX2_hitIn (.code yX2_hitIn cX2_hitIn 11 (some .long) :: tw) ({ frames := 1, cells := 0, slots := 0, locals := 24 } : Room) (rdP D [.ref oR, .long a1, .int a3] (wdR cI cJ oR oRh oRm oS oSs oF oFr oFs oFc oFw rsz rhi rmi srim sst fw fc fwh fbo fra fst fco fro) [(cI, .int), (cJ, .long)]) (vp_Sl (fun q => q = r)) 0 0 (fun _ => False) := by
  refine Met.ofW (cc := cX2_hitIn) (maxL := 11) (ret := (some .long)) (by decide) rfl ?_
  intro p e s m args below meth c s₁ B hml hv
  obtain ⟨rfl, hP, hK⟩ := hv
  have hx := B.exec
  have hb := B.bytes
  have hr := B.returns
  have hts : ∀ w ∈ tw, w.before _ s = true := fun w h => atoms_spec (ws := .code yX2_hitIn cX2_hitIn 11 (some .long) :: tw) B.pre w (List.mem_cons_of_mem _ h)
  have hown : s.vm.findClass RX2 = some m.cls := findClass_of_methodNamed B.named
  have hlocks := B.notSynchronized
  have hl := lv_entry ([.ref oR, .long a1, .int a3]) (n := 11) (Nat.le_of_ble_eq_true rfl)
  rw [lg_entry_eq]
  generalize (lg_sl ([.ref oR, .long a1, .int a3]) ++ List.replicate (11 - (lg_sl ([.ref oR, .long a1, .int a3])).length) Slot.unset).toArray = ls at hl ⊢
  refine bX2_hitIn hx hb hml hown hts hK hP ⟨Nat.le_of_ble_eq_true rfl, Nat.le_of_ble_eq_true rfl, Nat.zero_le _, Nat.zero_le _⟩ hm ls hl (fun pc ls hd => ?_)
  exact W.lret hx hb hr (fun t ht hW => ⟨r, rfl, rfl, ht⟩) (fun q h => by cases h) hd
set_option maxHeartbeats 4000000 in
set_option maxRecDepth 100000 in
theorem kX2_hitIn {own : String} {cc : ByteArray} {nL idx pc : Nat} {ls : Array Slot} {rest : List Value} {n : Nat} {a1 : Int64} {a3 : Int32} {r : Int64} (fx : CallFix p m c cc nL s args tw own) (hq : Cond.methodLink own idx yX2_hitIn ∈ tw) (hP : va_P D vwCl (wdR cI cJ oR oRh oRm oS oSs oF oFr oFs oFc oFw rsz rhi rmi srim sst fw fc fwh fbo fra fst fco fro) H) (hK : va_K D vwCl [(cI, .int), (cJ, .long)] s) (hm : mX2_hitIn n rhi rmi fra fst sst a1 a3 = some r) (hsz : ls.size = nL) (hR : 2 ≤ R.frames ∧ 54 ≤ R.locals ∧ cells ≤ R.cells ∧ slots ≤ R.slots) (hst : (rest.map fun v => v.category).sum ≤ 8) (hd : decode cc pc = .ok (.invokevirtual idx, 3)) (kk : W p l e R s m args below meth c H locs cells slots Q (F0 m (pc + 3) ls (.long r :: rest))) : W p l e R s m args below meth c H locs cells slots Q (F0 m pc ls (.int a3 :: .long a1 :: .ref oR :: rest)) := by
  exact vp_callSl (va_Run.run (va_runV (As := [.long a1, .int a3]) (rest := rest) fx (tX2_hitIn l hm) (cwV 2 fx.2.2.2.2 (tw_V hq qw_253 qw_254 qw_255 qw_256) rfl rfl rfl (by decide +kernel) ⟨hR.1, hR.2.1⟩) ⟨rdP_bl, va_recv hK hP (ci := 2) (q0 := 0) rfl rfl, rdP_ok hP hK⟩ rfl rfl hsz rfl (lv_room hst) hd ⟨hR.2.2.1, hR.2.2.2⟩)) (fun r9 hr9 => by first | (rw [hr9]; exact kk) | (rw [hr9.1]; exact kk))
-- X2_afterRound
def mX2_afterRound_L5 (n : Nat) (rsz : Int32) (rhi : Nat → Int32) (rmi : Nat → Int32) (fra : Nat → Int32) (fst : Nat → Int64) (sst : Nat → Int32) : Nat → (Int64) → (Int32) → Option ((Int64))
  | 0, _, _ => none
  | k + 1, v3, v5 => (if rsz ≤ v5 then some (v3) else jb (mX2_hitIn n rhi rmi fra fst sst v3 v5) (fun (r3 : Int64) => mX2_afterRound_L5 n rsz rhi rmi fra fst sst k (v3 &&& (r3 ^^^ (-1 : Int64))) (v5 + (1 : Int32))))
def mX2_afterRound (n : Nat) (rsz : Int32) (rhi : Nat → Int32) (rmi : Nat → Int32) (fra : Nat → Int32) (fst : Nat → Int64) (sst : Nat → Int32) (a1 : Int64) : Option Int64 :=
  jb (mX2_afterRound_L5 n rsz rhi rmi fra fst sst n a1 (0 : Int32)) (fun (y5 : Int64) => (some y5))
theorem dX2_afterRound_0 : decode cX2_afterRound 0 = .ok (.lload_n 1, 1) := by decide +kernel
theorem dX2_afterRound_1 : decode cX2_afterRound 1 = .ok (.lstore_n 3, 1) := by decide +kernel
theorem dX2_afterRound_2 : decode cX2_afterRound 2 = .ok (.iconst 0, 1) := by decide +kernel
theorem dX2_afterRound_3 : decode cX2_afterRound 3 = .ok (.istore 5, 2) := by decide +kernel
theorem dX2_afterRound_5 : decode cX2_afterRound 5 = .ok (.iload 5, 2) := by decide +kernel
theorem dX2_afterRound_7 : decode cX2_afterRound 7 = .ok (.aload_n 0, 1) := by decide +kernel
theorem dX2_afterRound_8 : decode cX2_afterRound 8 = .ok (.getfield 16, 3) := by decide +kernel
theorem dX2_afterRound_11 : decode cX2_afterRound 11 = .ok (.if_icmp .ge 23, 3) := by decide +kernel
theorem dX2_afterRound_14 : decode cX2_afterRound 14 = .ok (.lload_n 3, 1) := by decide +kernel
theorem dX2_afterRound_15 : decode cX2_afterRound 15 = .ok (.aload_n 0, 1) := by decide +kernel
theorem dX2_afterRound_16 : decode cX2_afterRound 16 = .ok (.lload_n 3, 1) := by decide +kernel
theorem dX2_afterRound_17 : decode cX2_afterRound 17 = .ok (.iload 5, 2) := by decide +kernel
theorem dX2_afterRound_19 : decode cX2_afterRound 19 = .ok (.invokevirtual 41, 3) := by decide +kernel
theorem dX2_afterRound_22 : decode cX2_afterRound 22 = .ok (.ldc2_w 39, 3) := by decide +kernel
theorem dX2_afterRound_25 : decode cX2_afterRound 25 = .ok (.lxor, 1) := by decide +kernel
theorem dX2_afterRound_26 : decode cX2_afterRound 26 = .ok (.land, 1) := by decide +kernel
theorem dX2_afterRound_27 : decode cX2_afterRound 27 = .ok (.lstore_n 3, 1) := by decide +kernel
theorem dX2_afterRound_28 : decode cX2_afterRound 28 = .ok (.iinc 5 1, 3) := by decide +kernel
theorem dX2_afterRound_31 : decode cX2_afterRound 31 = .ok (.goto (-26), 3) := by decide +kernel
theorem dX2_afterRound_34 : decode cX2_afterRound 34 = .ok (.lload_n 3, 1) := by decide +kernel
theorem dX2_afterRound_35 : decode cX2_afterRound 35 = .ok (.lreturn, 1) := by decide +kernel
set_option maxHeartbeats 4000000 in
set_option maxRecDepth 100000 in
theorem wX2_afterRound_L5 {n : Nat} (hx : p.tables.exec = Jvm.exec) (hb : c.code = cX2_afterRound) (hml : c.maxLocals = 6) (hown : s.vm.findClass RX2 = some m.cls) (hts : ∀ w ∈ tw, w.before args s = true) (hK : va_K D vwCl [(cI, .int), (cJ, .long)] s) (hP : va_P D vwCl (wdR cI cJ oR oRh oRm oS oSs oF oFr oFs oFc oFw rsz rhi rmi srim sst fw fc fwh fbo fra fst fco fro) H) (hR : 2 ≤ R.frames ∧ 54 ≤ R.locals ∧ cells ≤ R.cells ∧ slots ≤ R.slots) : ∀ (k : Nat) (v3 : Int64) (v5 : Int32) (x3 : Int64), mX2_afterRound_L5 n rsz rhi rmi fra fst sst k v3 v5 = some (x3) → ∀ ls : Array Slot, lv_has ls 6 [(0, .ref oR), (3, .long v3), (5, .int v5)] → (∀ ls : Array Slot, lv_has ls 6 [(3, .long x3)] → W p l e R s m args below meth c H locs cells slots Q (F0 m 34 ls [])) → W p l e R s m args below meth c H locs cells slots Q (F0 m 5 ls []) := by
  intro k
  induction k with
  | zero => intro v3 v5 x3 hm; rw [mX2_afterRound_L5] at hm; cases hm
  | succ k ih =>
    intro v3 v5 x3 hm ls hl K0
    rw [mX2_afterRound_L5] at hm
    refine lv_iload hx hb dX2_afterRound_5 (lv_at hl 2 rfl) ?_
    refine lv_aload_n hx hb dX2_afterRound_7 rfl (lv_at hl 0 rfl) ?_
    refine va_get (D := D) (ci := 2) (v := .int rsz) (C := RX2) (T := TX2) (N := 5) hx hb hts tnX2 hown hK hP 0 rfl rfl 4 (by decide) (hts _ qw_257) (fun _ h9 => h9) rfl dX2_afterRound_8 ?_
    refine lv_icmp_ge (tgt := 34) hx hb dX2_afterRound_11 (by decide) (fun c2 => ?_) (fun c2 => ?_)
    · rw [if_pos c2] at hm
      have hm := Option.some.inj hm
      have e9 : x3 = v3 := (congrArg (fun q => q) hm).symm
      rw [e9] at K0
      exact K0 ls (lv_sub hl [1] rfl)
    · rw [if_neg c2] at hm
      refine lv_lload_n hx hb dX2_afterRound_14 rfl (lv_at hl 1 rfl) ?_
      refine lv_aload_n hx hb dX2_afterRound_15 rfl (lv_at hl 0 rfl) ?_
      refine lv_lload_n hx hb dX2_afterRound_16 rfl (lv_at hl 1 rfl) ?_
      refine lv_iload hx hb dX2_afterRound_17 (lv_at hl 2 rfl) ?_
      obtain ⟨r3, h4, hm⟩ := jb_out hm
      refine kX2_hitIn ⟨hx, hb, hml, hown, hts⟩ qw_258 hP hK h4 hl.1 ⟨Nat.le_trans (by decide) hR.1, Nat.le_trans (by decide) hR.2.1, hR.2.2⟩ (Nat.le_of_ble_eq_true rfl) dX2_afterRound_19 ?_
      refine lv_ldc2 (v := (-1 : Int64)) hx hb hown (hts _ qw_252) dX2_afterRound_22 ?_
      refine lv_lxor hx hb dX2_afterRound_25 ?_
      refine lv_land hx hb dX2_afterRound_26 ?_
      refine lv_lstore_n (lv' := [(3, .long (v3 &&& (r3 ^^^ (-1 : Int64)))), (0, .ref oR), (5, .int v5)]) hx hb dX2_afterRound_27 rfl hl (by decide) rfl (fun ls hl => ?_)
      refine lv_iinc (v := (v5 + (1 : Int32))) (lv' := [(5, .int (v5 + (1 : Int32))), (3, .long (v3 &&& (r3 ^^^ (-1 : Int64)))), (0, .ref oR)]) hx hb dX2_afterRound_28 hl (k := 2) rfl (by rfl) (by decide) rfl (fun ls hl => ?_)
      refine lv_goto (tgt := 5) hx hb dX2_afterRound_31 (by decide) ?_
      exact ih _ _ _ hm ls (lv_sub hl [2, 1, 0] rfl) K0
set_option maxHeartbeats 4000000 in
set_option maxRecDepth 100000 in
theorem bX2_afterRound {n : Nat} {a1 : Int64} {r : Int64} (hx : p.tables.exec = Jvm.exec) (hb : c.code = cX2_afterRound) (hml : c.maxLocals = 6) (hown : s.vm.findClass RX2 = some m.cls) (hts : ∀ w ∈ tw, w.before args s = true) (hK : va_K D vwCl [(cI, .int), (cJ, .long)] s) (hP : va_P D vwCl (wdR cI cJ oR oRh oRm oS oSs oF oFr oFs oFc oFw rsz rhi rmi srim sst fw fc fwh fbo fra fst fco fro) H) (hR : 2 ≤ R.frames ∧ 54 ≤ R.locals ∧ cells ≤ R.cells ∧ slots ≤ R.slots) (hm : mX2_afterRound n rsz rhi rmi fra fst sst a1 = some r) (ls : Array Slot) (hl : lv_has ls 6 [(0, .ref oR), (1, .long a1)]) (K : ∀ (pc : Nat) (ls : Array Slot), decode cX2_afterRound pc = .ok (.lreturn, 1) → W p l e R s m args below meth c H locs cells slots Q (F0 m pc ls [.long r])) : W p l e R s m args below meth c H locs cells slots Q (F0 m 0 ls []) := by
  unfold mX2_afterRound at hm
  refine lv_lload_n hx hb dX2_afterRound_0 rfl (lv_at hl 1 rfl) ?_
  refine lv_lstore_n (lv' := [(3, .long a1), (0, .ref oR), (1, .long a1)]) hx hb dX2_afterRound_1 rfl hl (by decide) rfl (fun ls hl => ?_)
  refine lv_iconst (v := (0 : Int32)) hx hb dX2_afterRound_2 (by decide) ?_
  refine lv_istore (lv' := [(5, .int (0 : Int32)), (3, .long a1), (0, .ref oR), (1, .long a1)]) hx hb dX2_afterRound_3 hl (by decide) rfl (fun ls hl => ?_)
  obtain ⟨y5, h6, hm⟩ := jb_out hm
  refine wX2_afterRound_L5 hx hb hml hown hts hK hP hR n _ _ _  h6 ls (lv_sub hl [2, 1, 0] rfl) (fun ls hl => ?_)
  refine lv_lload_n hx hb dX2_afterRound_34 rfl (lv_at hl 0 rfl) ?_
  have hm := Option.some.inj hm
  subst hm
  exact K 35 ls dX2_afterRound_35
set_option maxHeartbeats 4000000 in
set_option maxRecDepth 100000 in
theorem tX2_afterRound (l : Launch) {D : va_G} {n : Nat} {a1 : Int64} {r : Int64} (hm : mX2_afterRound n rsz rhi rmi fra fst sst a1 = some r) : Met l yX2_afterRound (.code yX2_afterRound cX2_afterRound 6 (some .long) :: tw) ({ frames := 2, cells := 0, slots := 0, locals := 54 } : Room) (rdP D [.ref oR, .long a1] (wdR cI cJ oR oRh oRm oS oSs oF oFr oFs oFc oFw rsz rhi rmi srim sst fw fc fwh fbo fra fst fco fro) [(cI, .int), (cJ, .long)]) (vp_Sl (fun q => q = r)) 0 0 (fun _ => False) := by
  refine Met.ofW (cc := cX2_afterRound) (maxL := 6) (ret := (some .long)) (by decide) rfl ?_
  intro p e s m args below meth c s₁ B hml hv
  obtain ⟨rfl, hP, hK⟩ := hv
  have hx := B.exec
  have hb := B.bytes
  have hr := B.returns
  have hts : ∀ w ∈ tw, w.before _ s = true := fun w h => atoms_spec (ws := .code yX2_afterRound cX2_afterRound 6 (some .long) :: tw) B.pre w (List.mem_cons_of_mem _ h)
  have hown : s.vm.findClass RX2 = some m.cls := findClass_of_methodNamed B.named
  have hlocks := B.notSynchronized
  have hl := lv_entry ([.ref oR, .long a1]) (n := 6) (Nat.le_of_ble_eq_true rfl)
  rw [lg_entry_eq]
  generalize (lg_sl ([.ref oR, .long a1]) ++ List.replicate (6 - (lg_sl ([.ref oR, .long a1])).length) Slot.unset).toArray = ls at hl ⊢
  refine bX2_afterRound hx hb hml hown hts hK hP ⟨Nat.le_of_ble_eq_true rfl, Nat.le_of_ble_eq_true rfl, Nat.zero_le _, Nat.zero_le _⟩ hm ls hl (fun pc ls hd => ?_)
  exact W.lret hx hb hr (fun t ht hW => ⟨r, rfl, rfl, ht⟩) (fun q h => by cases h) hd
set_option maxHeartbeats 4000000 in
set_option maxRecDepth 100000 in
theorem kX2_afterRound {own : String} {cc : ByteArray} {nL idx pc : Nat} {ls : Array Slot} {rest : List Value} {n : Nat} {a1 : Int64} {r : Int64} (fx : CallFix p m c cc nL s args tw own) (hq : Cond.methodLink own idx yX2_afterRound ∈ tw) (hP : va_P D vwCl (wdR cI cJ oR oRh oRm oS oSs oF oFr oFs oFc oFw rsz rhi rmi srim sst fw fc fwh fbo fra fst fco fro) H) (hK : va_K D vwCl [(cI, .int), (cJ, .long)] s) (hm : mX2_afterRound n rsz rhi rmi fra fst sst a1 = some r) (hsz : ls.size = nL) (hR : 3 ≤ R.frames ∧ 79 ≤ R.locals ∧ cells ≤ R.cells ∧ slots ≤ R.slots) (hst : (rest.map fun v => v.category).sum ≤ 8) (hd : decode cc pc = .ok (.invokevirtual idx, 3)) (kk : W p l e R s m args below meth c H locs cells slots Q (F0 m (pc + 3) ls (.long r :: rest))) : W p l e R s m args below meth c H locs cells slots Q (F0 m pc ls (.long a1 :: .ref oR :: rest)) := by
  exact vp_callSl (va_Run.run (va_runV (As := [.long a1]) (rest := rest) fx (tX2_afterRound l hm) (cwV 1 fx.2.2.2.2 (tw_V hq qw_259 qw_260 qw_255 qw_261) rfl rfl rfl (by decide +kernel) ⟨hR.1, hR.2.1⟩) ⟨rdP_bl, va_recv hK hP (ci := 2) (q0 := 0) rfl rfl, rdP_ok hP hK⟩ rfl rfl hsz rfl (lv_room hst) hd ⟨hR.2.2.1, hR.2.2.2⟩)) (fun r9 hr9 => by first | (rw [hr9]; exact kk) | (rw [hr9.1]; exact kk))
end
