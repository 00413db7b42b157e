theorem qw_554 : Cond.methodLink RX0 71 yX0_hardest ∈ tw := tw_of (by decide +kernel) rfl
theorem qw_555 : Cond.methodLink RX0 61 yX0_fewest ∈ tw := tw_of (by decide +kernel) rfl
theorem qw_556 : Cond.methodLink RX0 65 yJ9_min_7cf53 ∈ tw := tw_of (by decide +kernel) rfl
theorem qw_557 : Cond.static yX0_fewest ∈ tw := tw_of (by decide +kernel) rfl
theorem qw_558 : Cond.code yX0_fewest cX0_fewest 8 (some .int) ∈ tw := tw_of (by decide +kernel) rfl
theorem qw_559 : Cond.methodLink RX0 57 yX0_gatherWidest ∈ tw := tw_of (by decide +kernel) rfl
theorem qw_560 : Cond.instanceMethod yX0_fewestOver ∈ tw := tw_of (by decide +kernel) rfl
theorem qw_561 : Cond.selects RX0 yX0_fewestOver yX0_fewestOver ∈ tw := tw_of (by decide +kernel) rfl
theorem qw_562 : Cond.code yX0_fewestOver cX0_fewestOver 3 (some .int) ∈ tw := tw_of (by decide +kernel) rfl
theorem qw_563 : Cond.methodLink RX7 212 yX0_fewestOver ∈ tw := tw_of (by decide +kernel) rfl
theorem qw_564 : Cond.instanceMethod yX7_covered ∈ tw := tw_of (by decide +kernel) rfl
theorem qw_565 : Cond.selects RX7 yX7_covered yX7_covered ∈ tw := tw_of (by decide +kernel) rfl
theorem qw_566 : Cond.code yX7_covered cX7_covered 2 (some .int) ∈ tw := tw_of (by decide +kernel) rfl
section
variable {A : Nat → Prop} {p : Program} {l : Launch} {e : Env} {R : Room} {s : State} {m : MethodId} {args : Array Value} {below : List Frame} {meth : Method} {c : Code} {H : Heap} {locs : List Loc} {cells slots : Nat} {Q : State → Prop} {D : va_G} {oF : Nat} {oFr : Nat} {oFs : Nat} {oFc : Nat} {oFw : Nat} {oS : Nat} {oSs : Nat} {oG : Nat} {oGa : Nat} {oQ : Nat} {oQw : Nat} {oI : Nat} {oR : Nat} {oRh : Nat} {oRm : Nat} {oB : Nat} {oBw : Nat} {oX : Nat} {oXp : Nat} {oXg : Nat} {oG0 : Nat} {oGa0 : Nat} {oG1 : Nat} {oGa1 : Nat} {oG2 : Nat} {oGa2 : Nat} {oM : Nat} {oM1 : Nat} {oM2 : Nat} {oM3 : Nat} {oM4 : Nat} {oM5 : Nat} {oM6 : Nat} {oM7 : Nat} {oM8 : Nat} {oM9 : Nat} {oM10 : Nat} {oM11 : Nat} {tS : Nat} {tA : Nat} {cI : ClassId} {cJ : ClassId} {cG : ClassId} {fw : Int32} {fc : Int32} {fwh : Int64} {fbo : Int64} {fra : Nat → Int32} {fco : Nat → Int32} {fro : Nat → Int32} {fst : Nat → Int64} {srim : Int32} {sst : Nat → Int32} {gsz : Int32} {gac : Nat → Int32} {qln : Int32} {qwy : Nat → Int32} {ijn : Int32} {rsz : Int32} {rhi : Nat → Int32} {rmi : Nat → Int32} {bsz : Int32} {bfi : Int32} {bla : Int32} {bar : Int32} {bwi : Nat → Int64} {xpi : Nat → Int64} {gs0 : Int32} {gs1 : Int32} {gs2 : Int32} {ga0 : Nat → Int32} {ga1 : Nat → Int32} {ga2 : Nat → Int32} {mw : Int32} {mt : Int32} {mrim : Int32} {mjn : Int32} {mhm : Int32} {mpn : Int32} {mbm : Int32} {mgm : Int32} {mpi : Nat → Int64} {mbe : Nat → Int64} {mgr : Nat → Int64} {mle : Nat → Int64} {mst : Nat → Int32} {mam : Nat → Int32} {mac : Nat → Int32} {mro : Nat → Int32} {mhi : Nat → Int32} {mmi : Nat → Int32} {mtr : Nat → Int32}
-- X0_fewest
def mX0_fewest_L38 (n : Nat) (bsz : Int32) (bwi : Nat → Int64) (v5 : Int32) (rc : Int64 → Int32 → Int32 → Option Int32) (v1 : Int64) (v3 : Int32) : Nat → (Int32) → (Int32) → Option ((Int32))
  | 0, _, _ => none
  | k + 1, v6, v7 => (if bsz ≤ v7 then some (v6) else gd (ib v7 210) (jb (if ((jlushr (bwi v7.toNatClampNeg) v5) &&& (1 : Int64)) = (0 : Int64) then (some (v6)) else gd (ib v7 210) (jb (rc (v1 &&& ((bwi v7.toNatClampNeg) ^^^ (-1 : Int64))) (v3 + (1 : Int32)) v6) (fun (r14 : Int32) => (some (r14))))) (fun (j8 : Int32) => mX0_fewest_L38 n bsz bwi v5 rc v1 v3 k j8 (v7 + (1 : Int32)))))
def mX0_fewest_b (rc : Int64 → Int32 → Int32 → Option Int32) (n : Nat) (fc : Int32) (bsz : Int32) (bwi : Nat → Int64) (a1 : Int64) (a3 : Int32) (a4 : Int32) : Option Int32 :=
  (if a1 = (0 : Int64) then (some (mJ9_min_7cf53 a3 a4)) else (if (a3 + (1 : Int32)) < a4 then jb (mX0_hardest n fc bsz bwi a1) (fun (r3 : Int32) => jb (mX0_fewest_L38 n bsz bwi r3 rc a1 a3 n a4 (0 : Int32)) (fun (y15 : Int32) => (some y15))) else (some a4)))
def mX0_fewest (n : Nat) (fc : Int32) (bsz : Int32) (bwi : Nat → Int64) : Nat → Int64 → Int32 → Int32 → Option Int32
  | 0, _, _, _ => none
  | d + 1, a1, a3, a4 => mX0_fewest_b (mX0_fewest n fc bsz bwi d) n fc bsz bwi a1 a3 a4
theorem dX0_fewest_0 : decode cX0_fewest 0 = .ok (.lload_n 1, 1) := by decide +kernel
theorem dX0_fewest_1 : decode cX0_fewest 1 = .ok (.lconst 0, 1) := by decide +kernel
theorem dX0_fewest_2 : decode cX0_fewest 2 = .ok (.lcmp, 1) := by decide +kernel
theorem dX0_fewest_3 : decode cX0_fewest 3 = .ok (.ifCond .ne 10, 3) := by decide +kernel
theorem dX0_fewest_6 : decode cX0_fewest 6 = .ok (.iload_n 3, 1) := by decide +kernel
theorem dX0_fewest_7 : decode cX0_fewest 7 = .ok (.iload 4, 2) := by decide +kernel
theorem dX0_fewest_9 : decode cX0_fewest 9 = .ok (.invokestatic 65, 3) := by decide +kernel
theorem dX0_fewest_12 : decode cX0_fewest 12 = .ok (.ireturn, 1) := by decide +kernel
theorem dX0_fewest_13 : decode cX0_fewest 13 = .ok (.iload_n 3, 1) := by decide +kernel
theorem dX0_fewest_14 : decode cX0_fewest 14 = .ok (.iconst 1, 1) := by decide +kernel
theorem dX0_fewest_15 : decode cX0_fewest 15 = .ok (.iadd, 1) := by decide +kernel
theorem dX0_fewest_16 : decode cX0_fewest 16 = .ok (.iload 4, 2) := by decide +kernel
theorem dX0_fewest_18 : decode cX0_fewest 18 = .ok (.if_icmp .lt 6, 3) := by decide +kernel
theorem dX0_fewest_21 : decode cX0_fewest 21 = .ok (.iload 4, 2) := by decide +kernel
theorem dX0_fewest_23 : decode cX0_fewest 23 = .ok (.ireturn, 1) := by decide +kernel
theorem dX0_fewest_24 : decode cX0_fewest 24 = .ok (.aload_n 0, 1) := by decide +kernel
theorem dX0_fewest_25 : decode cX0_fewest 25 = .ok (.lload_n 1, 1) := by decide +kernel
theorem dX0_fewest_26 : decode cX0_fewest 26 = .ok (.invokevirtual 71, 3) := by decide +kernel
theorem dX0_fewest_29 : decode cX0_fewest 29 = .ok (.istore 5, 2) := by decide +kernel
theorem dX0_fewest_31 : decode cX0_fewest 31 = .ok (.iload 4, 2) := by decide +kernel
theorem dX0_fewest_33 : decode cX0_fewest 33 = .ok (.istore 6, 2) := by decide +kernel
theorem dX0_fewest_35 : decode cX0_fewest 35 = .ok (.iconst 0, 1) := by decide +kernel
theorem dX0_fewest_36 : decode cX0_fewest 36 = .ok (.istore 7, 2) := by decide +kernel
theorem dX0_fewest_38 : decode cX0_fewest 38 = .ok (.iload 7, 2) := by decide +kernel
theorem dX0_fewest_40 : decode cX0_fewest 40 = .ok (.aload_n 0, 1) := by decide +kernel
theorem dX0_fewest_41 : decode cX0_fewest 41 = .ok (.getfield 15, 3) := by decide +kernel
theorem dX0_fewest_44 : decode cX0_fewest 44 = .ok (.if_icmp .ge 50, 3) := by decide +kernel
theorem dX0_fewest_47 : decode cX0_fewest 47 = .ok (.aload_n 0, 1) := by decide +kernel
theorem dX0_fewest_48 : decode cX0_fewest 48 = .ok (.getfield 11, 3) := by decide +kernel
theorem dX0_fewest_51 : decode cX0_fewest 51 = .ok (.iload 7, 2) := by decide +kernel
theorem dX0_fewest_53 : decode cX0_fewest 53 = .ok (.laload, 1) := by decide +kernel
theorem dX0_fewest_54 : decode cX0_fewest 54 = .ok (.iload 5, 2) := by decide +kernel
theorem dX0_fewest_56 : decode cX0_fewest 56 = .ok (.lushr, 1) := by decide +kernel
theorem dX0_fewest_57 : decode cX0_fewest 57 = .ok (.lconst 1, 1) := by decide +kernel
theorem dX0_fewest_58 : decode cX0_fewest 58 = .ok (.land, 1) := by decide +kernel
theorem dX0_fewest_59 : decode cX0_fewest 59 = .ok (.lconst 0, 1) := by decide +kernel
theorem dX0_fewest_60 : decode cX0_fewest 60 = .ok (.lcmp, 1) := by decide +kernel
theorem dX0_fewest_61 : decode cX0_fewest 61 = .ok (.ifCond .eq 27, 3) := by decide +kernel
theorem dX0_fewest_64 : decode cX0_fewest 64 = .ok (.aload_n 0, 1) := by decide +kernel
theorem dX0_fewest_65 : decode cX0_fewest 65 = .ok (.lload_n 1, 1) := by decide +kernel
theorem dX0_fewest_66 : decode cX0_fewest 66 = .ok (.aload_n 0, 1) := by decide +kernel
theorem dX0_fewest_67 : decode cX0_fewest 67 = .ok (.getfield 11, 3) := by decide +kernel
theorem dX0_fewest_70 : decode cX0_fewest 70 = .ok (.iload 7, 2) := by decide +kernel
theorem dX0_fewest_72 : decode cX0_fewest 72 = .ok (.laload, 1) := by decide +kernel
theorem dX0_fewest_73 : decode cX0_fewest 73 = .ok (.ldc2_w 38, 3) := by decide +kernel
theorem dX0_fewest_76 : decode cX0_fewest 76 = .ok (.lxor, 1) := by decide +kernel
theorem dX0_fewest_77 : decode cX0_fewest 77 = .ok (.land, 1) := by decide +kernel
theorem dX0_fewest_78 : decode cX0_fewest 78 = .ok (.iload_n 3, 1) := by decide +kernel
theorem dX0_fewest_79 : decode cX0_fewest 79 = .ok (.iconst 1, 1) := by decide +kernel
theorem dX0_fewest_80 : decode cX0_fewest 80 = .ok (.iadd, 1) := by decide +kernel
theorem dX0_fewest_81 : decode cX0_fewest 81 = .ok (.iload 6, 2) := by decide +kernel
theorem dX0_fewest_83 : decode cX0_fewest 83 = .ok (.invokestatic 61, 3) := by decide +kernel
theorem dX0_fewest_86 : decode cX0_fewest 86 = .ok (.istore 6, 2) := by decide +kernel
theorem dX0_fewest_88 : decode cX0_fewest 88 = .ok (.iinc 7 1, 3) := by decide +kernel
theorem dX0_fewest_91 : decode cX0_fewest 91 = .ok (.goto (-53), 3) := by decide +kernel
theorem dX0_fewest_94 : decode cX0_fewest 94 = .ok (.iload 6, 2) := by decide +kernel
theorem dX0_fewest_96 : decode cX0_fewest 96 = .ok (.ireturn, 1) := by decide +kernel
set_option maxHeartbeats 4000000 in
set_option maxRecDepth 100000 in
theorem kX0_fewest_i {own : String} {cc : ByteArray} {nL idx pc : Nat} {ls : Array Slot} {rest : List Value} {fr lo : Nat} {a1 : Int64} {a3 : Int32} {a4 : Int32} {r : Int32} (hM : Met l yX0_fewest (.code yX0_fewest cX0_fewest 8 (some .int) :: tw) ({ frames := fr, cells := 0, slots := 0, locals := lo } : Room) (rdP D [.ref oB, .long a1, .int a3, .int a4] (wdB cJ cI oB oBw oF oFr oFs oFc oFw bsz bfi bla bar bwi fw fc fwh fbo fra fst fco fro) [(cI, .int), (cJ, .long)]) (vp_Si (fun q => q = r)) 0 0 (fun _ => False)) (fx : CallFix p m c cc nL s args tw own) (hq : Cond.methodLink own idx yX0_fewest ∈ tw) (hP : va_P D vwCl (wdB cJ cI oB oBw oF oFr oFs oFc oFw bsz bfi bla bar bwi fw fc fwh fbo fra fst fco fro) H) (hK : va_K D vwCl [(cI, .int), (cJ, .long)] s) (hsz : ls.size = nL) (hR : fr + 1 ≤ R.frames ∧ 8 + (8 + 11) + lo ≤ R.locals ∧ cells ≤ R.cells ∧ slots ≤ R.slots) (hst : (rest.map fun v => v.category).sum ≤ 8) (hd : decode cc pc = .ok (.invokestatic idx, 3)) (kk : W p l e R s m args below meth c H locs cells slots Q (F0 m (pc + 3) ls (.int r :: rest))) : W p l e R s m args below meth c H locs cells slots Q (F0 m pc ls (.int a4 :: .int a3 :: .long a1 :: .ref oB :: rest)) := by
  exact vp_callSi (va_Run.run (va_runS (As := [.ref oB, .long a1, .int a3, .int a4]) (rest := rest) fx hM (va_cwS 4 fx.2.2.2.2 (tw_S2 hq qw_557 qw_267 qw_558) rfl rfl rfl (by decide +kernel) ⟨hR.1, hR.2.1⟩) ⟨rdP_bl, rdP_ok hP hK⟩ rfl rfl hsz rfl (lv_room hst) hd ⟨hR.2.2.1, hR.2.2.2⟩)) (fun r9 hr9 => by rw [hr9]; exact kk)
set_option maxHeartbeats 4000000 in
set_option maxRecDepth 100000 in
theorem wX0_fewest_L38 {n : Nat} {rc : Int64 → Int32 → Int32 → Option Int32} {fr lo : Nat}  {v1 : Int64} {v3 : Int32} {v5 : Int32} (hx : p.tables.exec = Jvm.exec) (hb : c.code = cX0_fewest) (hml : c.maxLocals = 8) (hown : s.vm.findClass RX0 = some m.cls) (hts : ∀ w ∈ tw, w.before args s = true) (hK : va_K D vwCl [(cI, .int), (cJ, .long)] s) (hP : va_P D vwCl (wdB cJ cI oB oBw oF oFr oFs oFc oFw bsz bfi bla bar bwi fw fc fwh fbo fra fst fco fro) H) (IH : ∀ (b1 : Int64) (b3 : Int32) (b4 : Int32) (r : Int32), rc b1 b3 b4 = some r → Met l yX0_fewest (.code yX0_fewest cX0_fewest 8 (some .int) :: tw) ({ frames := fr, cells := 0, slots := 0, locals := lo } : Room) (rdP D [.ref oB, .long b1, .int b3, .int b4] (wdB cJ cI oB oBw oF oFr oFs oFc oFw bsz bfi bla bar bwi fw fc fwh fbo fra fst fco fro) [(cI, .int), (cJ, .long)]) (vp_Si (fun q => q = r)) 0 0 (fun _ => False)) (hRr : fr + 1 ≤ R.frames ∧ 8 + (8 + 11) + lo ≤ R.locals) (hR : 2 ≤ R.frames ∧ 49 ≤ R.locals ∧ cells ≤ R.cells ∧ slots ≤ R.slots) : ∀ (k : Nat) (v6 : Int32) (v7 : Int32) (x6 : Int32), mX0_fewest_L38 n bsz bwi v5 rc v1 v3 k v6 v7 = some (x6) → ∀ ls : Array Slot, lv_has ls 8 [(0, .ref oB), (1, .long v1), (3, .int v3), (5, .int v5), (6, .int v6), (7, .int v7)] → (∀ ls : Array Slot, lv_has ls 8 [(6, .int x6)] → W p l e R s m args below meth c H locs cells slots Q (F0 m 94 ls [])) → W p l e R s m args below meth c H locs cells slots Q (F0 m 38 ls []) := by
  intro k
  induction k with
  | zero => intro v6 v7 x6 hm; rw [mX0_fewest_L38] at hm; cases hm
  | succ k ih =>
    intro v6 v7 x6 hm ls hl K0
    rw [mX0_fewest_L38] at hm
    refine lv_iload hx hb dX0_fewest_38 (lv_at hl 5 rfl) ?_
    refine lv_aload_n hx hb dX0_fewest_40 rfl (lv_at hl 0 rfl) ?_
    refine va_get (D := D) (ci := 0) (v := .int bsz) (C := RX0) (T := TX0) (N := 6) hx hb hts tnX0 hown hK hP 0 rfl rfl 2 (by decide) (hts _ qw_278) (fun _ h9 => h9) rfl dX0_fewest_41 ?_
    refine lv_icmp_ge (tgt := 94) hx hb dX0_fewest_44 (by decide) (fun c6 => ?_) (fun c6 => ?_)
    · rw [if_pos c6] at hm
      have hm := Option.some.inj hm
      have e9 : x6 = v6 := (congrArg (fun q => q) hm).symm
      rw [e9] at K0
      exact K0 ls (lv_sub hl [4] rfl)
    · rw [if_neg c6] at hm
      refine lv_aload_n hx hb dX0_fewest_47 rfl (lv_at hl 0 rfl) ?_
      refine va_get (D := D) (ci := 0) (v := .ref oBw) (C := RX0) (T := TX0) (N := 6) hx hb hts tnX0 hown hK hP 0 rfl rfl 1 (by decide) (hts _ qw_279) (fun _ h9 => h9) rfl dX0_fewest_48 ?_
      refine lv_iload hx hb dX0_fewest_51 (lv_at hl 5 rfl) ?_
      obtain ⟨g7, hm⟩ := gd_out hm
      refine va_lald hx hb hK hP 1 1 rfl rfl g7 dX0_fewest_53 ?_
      refine lv_iload hx hb dX0_fewest_54 (lv_at hl 3 rfl) ?_
      refine lv_lushr (v := (jlushr (bwi v7.toNatClampNeg) v5)) hx hb dX0_fewest_56 rfl ?_
      refine lv_lconst (v := (1 : Int64)) hx hb dX0_fewest_57 (by decide) ?_
      refine lv_land hx hb dX0_fewest_58 ?_
      refine lv_lconst (v := (0 : Int64)) hx hb dX0_fewest_59 (by decide) ?_
      refine W.lcmp hx hb dX0_fewest_60 ?_
      obtain ⟨j8, hi9, hm⟩ := jb_out hm
      have key10 : ∀ (ls : Array Slot), lv_has ls 8 [(6, .int j8), (0, .ref oB), (1, .long v1), (3, .int v3), (5, .int v5), (7, .int v7)] → W p l e R s m args below meth c H locs cells slots Q (F0 m 88 ls []) := by
        intro ls hl
        refine lv_iinc (v := (v7 + (1 : Int32))) (lv' := [(7, .int (v7 + (1 : Int32))), (6, .int j8), (0, .ref oB), (1, .long v1), (3, .int v3), (5, .int v5)]) hx hb dX0_fewest_88 hl (k := 5) rfl (by rfl) (by decide) rfl (fun ls hl => ?_)
        refine lv_goto (tgt := 38) hx hb dX0_fewest_91 (by decide) ?_
        exact ih _ _ _ hm ls (lv_sub hl [2, 3, 4, 5, 1, 0] rfl) K0
      refine lv_if_eq (tgt := 88) hx hb dX0_fewest_61 (by decide) (fun c11 => ?_) (fun c11 => ?_)
      · have c11 := (lg_cmp_eq ((jlushr (bwi v7.toNatClampNeg) v5) &&& (1 : Int64)) (0 : Int64)).mp c11
        rw [if_pos c11] at hi9
        have hi9 := Option.some.inj hi9
        have e9 : j8 = v6 := (congrArg (fun q => q) hi9).symm
        rw [e9] at key10
        exact key10 ls (lv_sub hl [4, 0, 1, 2, 3, 5] rfl)
      · have c11 := fun h9 => c11 ((lg_cmp_eq ((jlushr (bwi v7.toNatClampNeg) v5) &&& (1 : Int64)) (0 : Int64)).mpr h9)
        rw [if_neg c11] at hi9
        refine lv_aload_n hx hb dX0_fewest_64 rfl (lv_at hl 0 rfl) ?_
        refine lv_lload_n hx hb dX0_fewest_65 rfl (lv_at hl 1 rfl) ?_
        refine lv_aload_n hx hb dX0_fewest_66 rfl (lv_at hl 0 rfl) ?_
        refine va_get (D := D) (ci := 0) (v := .ref oBw) (C := RX0) (T := TX0) (N := 6) hx hb hts tnX0 hown hK hP 0 rfl rfl 1 (by decide) (hts _ qw_279) (fun _ h9 => h9) rfl dX0_fewest_67 ?_
        refine lv_iload hx hb dX0_fewest_70 (lv_at hl 5 rfl) ?_
        obtain ⟨g12, hi9⟩ := gd_out hi9
        refine va_lald hx hb hK hP 1 1 rfl rfl g12 dX0_fewest_72 ?_
        refine lv_ldc2 (v := (-1 : Int64)) hx hb hown (hts _ qw_264) dX0_fewest_73 ?_
        refine lv_lxor hx hb dX0_fewest_76 ?_
        refine lv_land hx hb dX0_fewest_77 ?_
        refine lv_iload_n hx hb dX0_fewest_78 rfl (lv_at hl 2 rfl) ?_
        refine lv_iconst (v := (1 : Int32)) hx hb dX0_fewest_79 (by decide) ?_
        refine lv_iadd hx hb dX0_fewest_80 ?_
        refine lv_iload hx hb dX0_fewest_81 (lv_at hl 4 rfl) ?_
        obtain ⟨r14, h13, hi9⟩ := jb_out hi9
        refine kX0_fewest_i (IH _ _ _ _ h13) ⟨hx, hb, hml, hown, hts⟩ qw_555 hP hK hl.1 ⟨hRr.1, hRr.2, hR.2.2⟩ (Nat.le_of_ble_eq_true rfl) dX0_fewest_83 ?_
        refine lv_istore (lv' := [(6, .int r14), (0, .ref oB), (1, .long v1), (3, .int v3), (5, .int v5), (7, .int v7)]) hx hb dX0_fewest_86 hl (by decide) rfl (fun ls hl => ?_)
        have hi9 := Option.some.inj hi9
        have e9 : j8 = r14 := (congrArg (fun q => q) hi9).symm
        rw [e9] at key10
        exact key10 ls (lv_sub hl [0, 1, 2, 3, 4, 5] rfl)
set_option maxHeartbeats 4000000 in
set_option maxRecDepth 100000 in
theorem bX0_fewest {n : Nat} {rc : Int64 → Int32 → Int32 → Option Int32} {fr lo : Nat} {a1 : Int64} {a3 : Int32} {a4 : Int32} {r : Int32} (hx : p.tables.exec = Jvm.exec) (hb : c.code = cX0_fewest) (hml : c.maxLocals = 8) (hown : s.vm.findClass RX0 = some m.cls) (hts : ∀ w ∈ tw, w.before args s = true) (hK : va_K D vwCl [(cI, .int), (cJ, .long)] s) (hP : va_P D vwCl (wdB cJ cI oB oBw oF oFr oFs oFc oFw bsz bfi bla bar bwi fw fc fwh fbo fra fst fco fro) H) (IH : ∀ (b1 : Int64) (b3 : Int32) (b4 : Int32) (r : Int32), rc b1 b3 b4 = some r → Met l yX0_fewest (.code yX0_fewest cX0_fewest 8 (some .int) :: tw) ({ frames := fr, cells := 0, slots := 0, locals := lo } : Room) (rdP D [.ref oB, .long b1, .int b3, .int b4] (wdB cJ cI oB oBw oF oFr oFs oFc oFw bsz bfi bla bar bwi fw fc fwh fbo fra fst fco fro) [(cI, .int), (cJ, .long)]) (vp_Si (fun q => q = r)) 0 0 (fun _ => False)) (hRr : fr + 1 ≤ R.frames ∧ 8 + (8 + 11) + lo ≤ R.locals) (hR : 2 ≤ R.frames ∧ 49 ≤ R.locals ∧ cells ≤ R.cells ∧ slots ≤ R.slots) (hm : mX0_fewest_b rc n fc bsz bwi a1 a3 a4 = some r) (ls : Array Slot) (hl : lv_has ls 8 [(0, .ref oB), (1, .long a1), (3, .int a3), (4, .int a4)]) (K : ∀ (pc : Nat) (ls : Array Slot), decode cX0_fewest pc = .ok (.ireturn, 1) → W p l e R s m args below meth c H locs cells slots Q (F0 m pc ls [.int r])) : W p l e R s m args below meth c H locs cells slots Q (F0 m 0 ls []) := by
  unfold mX0_fewest_b at hm
  refine lv_lload_n hx hb dX0_fewest_0 rfl (lv_at hl 1 rfl) ?_
  refine lv_lconst (v := (0 : Int64)) hx hb dX0_fewest_1 (by decide) ?_
  refine W.lcmp hx hb dX0_fewest_2 ?_
  refine lv_if_ne (tgt := 13) hx hb dX0_fewest_3 (by decide) (fun c1 => ?_) (fun c1 => ?_)
  · have c1 := fun h9 => c1 ((lg_cmp_eq a1 (0 : Int64)).mpr h9)
    rw [if_neg c1] at hm
    refine lv_iload_n hx hb dX0_fewest_13 rfl (lv_at hl 2 rfl) ?_
    refine lv_iconst (v := (1 : Int32)) hx hb dX0_fewest_14 (by decide) ?_
    refine lv_iadd hx hb dX0_fewest_15 ?_
    refine lv_iload hx hb dX0_fewest_16 (lv_at hl 3 rfl) ?_
    refine lv_icmp_lt (tgt := 24) hx hb dX0_fewest_18 (by decide) (fun c2 => ?_) (fun c2 => ?_)
    · rw [if_pos c2] at hm
      refine lv_aload_n hx hb dX0_fewest_24 rfl (lv_at hl 0 rfl) ?_
      refine lv_lload_n hx hb dX0_fewest_25 rfl (lv_at hl 1 rfl) ?_
      obtain ⟨r3, h4, hm⟩ := jb_out hm
      refine kX0_hardest ⟨hx, hb, hml, hown, hts⟩ qw_554 hP hK h4 hl.1 ⟨Nat.le_trans (by decide) hR.1, Nat.le_trans (by decide) hR.2.1, hR.2.2⟩ (Nat.le_of_ble_eq_true rfl) dX0_fewest_26 ?_
      refine lv_istore (lv' := [(5, .int r3), (0, .ref oB), (1, .long a1), (3, .int a3), (4, .int a4)]) hx hb dX0_fewest_29 hl (by decide) rfl (fun ls hl => ?_)
      refine lv_iload hx hb dX0_fewest_31 (lv_at hl 4 rfl) ?_
      refine lv_istore (lv' := [(6, .int a4), (5, .int r3), (0, .ref oB), (1, .long a1), (3, .int a3), (4, .int a4)]) hx hb dX0_fewest_33 hl (by decide) rfl (fun ls hl => ?_)
      refine lv_iconst (v := (0 : Int32)) hx hb dX0_fewest_35 (by decide) ?_
      refine lv_istore (lv' := [(7, .int (0 : Int32)), (6, .int a4), (5, .int r3), (0, .ref oB), (1, .long a1), (3, .int a3), (4, .int a4)]) hx hb dX0_fewest_36 hl (by decide) rfl (fun ls hl => ?_)
      obtain ⟨y15, h16, hm⟩ := jb_out hm
      refine wX0_fewest_L38 hx hb hml hown hts hK hP IH hRr hR n _ _ _  h16 ls (lv_sub hl [3, 4, 5, 2, 1, 0] rfl) (fun ls hl => ?_)
      refine lv_iload hx hb dX0_fewest_94 (lv_at hl 0 rfl) ?_
      have hm := Option.some.inj hm
      subst hm
      exact K 96 ls dX0_fewest_96
    · rw [if_neg c2] at hm
      refine lv_iload hx hb dX0_fewest_21 (lv_at hl 3 rfl) ?_
      have hm := Option.some.inj hm
      subst hm
      exact K 23 ls dX0_fewest_23
  · have c1 := (lg_cmp_eq a1 (0 : Int64)).mp c1
    rw [if_pos c1] at hm
    refine lv_iload_n hx hb dX0_fewest_6 rfl (lv_at hl 2 rfl) ?_
    refine lv_iload hx hb dX0_fewest_7 (lv_at hl 3 rfl) ?_
    refine kJ9_min_7cf53 ⟨hx, hb, hml, hown, hts⟩ qw_556 hl.1 ⟨Nat.le_trans (by decide) hR.1, Nat.le_trans (by decide) hR.2.1, hR.2.2⟩ (Nat.le_of_ble_eq_true rfl) dX0_fewest_9 ?_
    have hm := Option.some.inj hm
    subst hm
    exact K 12 ls dX0_fewest_12
set_option maxHeartbeats 4000000 in
set_option maxRecDepth 100000 in
theorem tX0_fewest (l : Launch) {D : va_G} {n : Nat} : ∀ (d : Nat) {a1 : Int64} {a3 : Int32} {a4 : Int32} {r : Int32}, mX0_fewest n fc bsz bwi d a1 a3 a4 = some r → Met l yX0_fewest (.code yX0_fewest cX0_fewest 8 (some .int) :: tw) ({ frames := d + 2, cells := 0, slots := 0, locals := d * 27 + 49 } : Room) (rdP D [.ref oB, .long a1, .int a3, .int a4] (wdB cJ cI oB oBw oF oFr oFs oFc oFw bsz bfi bla bar bwi fw fc fwh fbo fra fst fco fro) [(cI, .int), (cJ, .long)]) (vp_Si (fun q => q = r)) 0 0 (fun _ => False) := by
  intro d
  induction d with
  | zero => intro a1 a3 a4 r hm; rw [mX0_fewest] at hm; cases hm
  | succ d ih =>
    intro a1 a3 a4 r hm
    rw [mX0_fewest] at hm
    refine Met.ofW (cc := cX0_fewest) (maxL := 8) (ret := (some .int)) (by decide) rfl ?_
    intro p e s m args below meth c s₁ B hml hv
    obtain ⟨rfl, hP, hK⟩ := hv
    have hx := B.exec
    have hb := B.bytes
    have hr := B.returns
    have hts : ∀ w ∈ tw, w.before _ s = true := fun w h => atoms_spec (ws := .code yX0_fewest cX0_fewest 8 (some .int) :: tw) B.pre w (List.mem_cons_of_mem _ h)
    have hown : s.vm.findClass RX0 = some m.cls := findClass_of_methodNamed B.named
    have hlocks := B.notSynchronized
    have hl := lv_entry ([.ref oB, .long a1, .int a3, .int a4]) (n := 8) (Nat.le_of_ble_eq_true rfl)
    rw [lg_entry_eq]
    generalize (lg_sl ([.ref oB, .long a1, .int a3, .int a4]) ++ List.replicate (8 - (lg_sl ([.ref oB, .long a1, .int a3, .int a4])).length) Slot.unset).toArray = ls at hl ⊢
    refine bX0_fewest (fr := d + 2) (lo := d * 27 + 49) hx hb hml hown hts hK hP (fun _ _ _ _ h => ih h) ⟨by show _ ≤ d + 1 + 2; omega, by show _ ≤ (d + 1) * 27 + 49; omega⟩ ⟨by show _ ≤ d + 1 + 2; omega, by show _ ≤ (d + 1) * 27 + 49; omega, Nat.zero_le _, Nat.zero_le _⟩ hm ls hl (fun pc ls hd => ?_)
    exact W.iret hx hb hr (fun t ht hW => ⟨r, rfl, rfl, ht⟩) (fun q h => by cases h) hd
set_option maxHeartbeats 4000000 in
set_option maxRecDepth 100000 in
theorem kX0_fewest {own : String} {cc : ByteArray} {nL idx pc : Nat} {ls : Array Slot} {rest : List Value} {n : Nat} {a1 : Int64} {a3 : Int32} {a4 : Int32} {r : Int32} (fx : CallFix p m c cc nL s args tw own) (hq : Cond.methodLink own idx yX0_fewest ∈ tw) (hP : va_P D vwCl (wdB cJ cI oB oBw oF oFr oFs oFc oFw bsz bfi bla bar bwi fw fc fwh fbo fra fst fco fro) H) (hK : va_K D vwCl [(cI, .int), (cJ, .long)] s) (hm : mX0_fewest n fc bsz bwi 24 a1 a3 a4 = some r) (hsz : ls.size = nL) (hR : 27 ≤ R.frames ∧ 724 ≤ R.locals ∧ cells ≤ R.cells ∧ slots ≤ R.slots) (hst : (rest.map fun v => v.category).sum ≤ 8) (hd : decode cc pc = .ok (.invokestatic idx, 3)) (kk : W p l e R s m args below meth c H locs cells slots Q (F0 m (pc + 3) ls (.int r :: rest))) : W p l e R s m args below meth c H locs cells slots Q (F0 m pc ls (.int a4 :: .int a3 :: .long a1 :: .ref oB :: rest)) := kX0_fewest_i (tX0_fewest l 24 hm) fx hq hP hK hsz hR hst hd kk
-- X0_fewestOver
def mX0_fewestOver (n : Nat) (fc : Int32) (fco : Nat → Int32) (fro : Nat → Int32) (fw : Int32) (fst : Nat → Int64) (fra : Nat → Int32) (bwi : Nat → Int64) (a1 : Int64) : Option (Int32 × (Int32) × (Nat → Int64)) :=
  jb2 (mX0_gatherWidest n fc fco fro fw fst fra bwi a1) (fun (y3 : Int32) (y4 : Nat → Int64) => jb (mX0_fewest n fc y3 y4 24 a1 (0 : Int32) (mJ13_bitCount_95d88 a1)) (fun (r6 : Int32) => (some (r6, y3, y4))))
theorem dX0_fewestOver_0 : decode cX0_fewestOver 0 = .ok (.aload_n 0, 1) := by decide +kernel
theorem dX0_fewestOver_1 : decode cX0_fewestOver 1 = .ok (.lload_n 1, 1) := by decide +kernel
theorem dX0_fewestOver_2 : decode cX0_fewestOver 2 = .ok (.invokevirtual 57, 3) := by decide +kernel
theorem dX0_fewestOver_5 : decode cX0_fewestOver 5 = .ok (.aload_n 0, 1) := by decide +kernel
theorem dX0_fewestOver_6 : decode cX0_fewestOver 6 = .ok (.lload_n 1, 1) := by decide +kernel
theorem dX0_fewestOver_7 : decode cX0_fewestOver 7 = .ok (.iconst 0, 1) := by decide +kernel
theorem dX0_fewestOver_8 : decode cX0_fewestOver 8 = .ok (.lload_n 1, 1) := by decide +kernel
theorem dX0_fewestOver_9 : decode cX0_fewestOver 9 = .ok (.invokestatic 51, 3) := by decide +kernel
theorem dX0_fewestOver_12 : decode cX0_fewestOver 12 = .ok (.invokestatic 61, 3) := by decide +kernel
theorem dX0_fewestOver_15 : decode cX0_fewestOver 15 = .ok (.ireturn, 1) := by decide +kernel
set_option maxHeartbeats 4000000 in
set_option maxRecDepth 100000 in
theorem bX0_fewestOver {n : Nat} {a1 : Int64} {r : Int32} {y_bsz : (Int32)} {y_bwi : (Nat → Int64)} (hx : p.tables.exec = Jvm.exec) (hb : c.code = cX0_fewestOver) (hml : c.maxLocals = 3) (hown : s.vm.findClass RX0 = some m.cls) (hts : ∀ w ∈ tw, w.before args s = true) (hK : va_K D vwCl [(cI, .int), (cJ, .long)] s) (hA : ∀ q, s.heap.size ≤ q → A q) (hZ : stZ A tS tA s s.heap) (hR : 27 ≤ R.frames ∧ 724 ≤ R.locals ∧ cells ≤ R.cells ∧ slots ≤ R.slots) (hm : mX0_fewestOver n fc fco fro fw fst fra bwi a1 = some (r, y_bsz, y_bwi)) (ls : Array Slot) (hl : lv_has ls 3 [(0, .ref oB), (1, .long a1)]) (hP : va_P D vwCl (wdB cJ cI oB oBw oF oFr oFs oFc oFw bsz bfi bla bar bwi fw fc fwh fbo fra fst fco fro) H) (hD : va_D A (wdB cJ cI oB oBw oF oFr oFs oFc oFw bsz bfi bla bar bwi fw fc fwh fbo fra fst fco fro)) (hS : va_S A s.heap H locs) (K : ∀ (pc : Nat) (ls : Array Slot) (H : Heap) (locs : List Loc), decode cX0_fewestOver pc = .ok (.ireturn, 1) → va_P D vwCl (wdB cJ cI oB oBw oF oFr oFs oFc oFw y_bsz bfi bla bar y_bwi fw fc fwh fbo fra fst fco fro) H → va_D A (wdB cJ cI oB oBw oF oFr oFs oFc oFw y_bsz bfi bla bar y_bwi fw fc fwh fbo fra fst fco fro) → va_S A s.heap H locs → W p l e R s m args below meth c H locs cells slots Q (F0 m pc ls [.int r])) : W p l e R s m args below meth c H locs cells slots Q (F0 m 0 ls []) := by
  unfold mX0_fewestOver at hm
  refine lv_aload_n hx hb dX0_fewestOver_0 rfl (lv_at hl 0 rfl) ?_
  refine lv_lload_n hx hb dX0_fewestOver_1 rfl (lv_at hl 1 rfl) ?_
  obtain ⟨y3, y4, h2, hm⟩ := jb_out2 hm
  refine kX0_gatherWidest (ws := (wdB cJ cI oB oBw oF oFr oFs oFc oFw bsz bfi bla bar bwi fw fc fwh fbo fra fst fco fro)) (wr := []) ⟨hx, hb, hml, hown, hts⟩ qw_559 [0, 1, 2, 3, 4, 5, 6] [] rfl rfl (by decide) (by decide) (by decide) hK hZ h2 hl.1 ⟨Nat.le_trans (by decide) hR.1, Nat.le_trans (by decide) hR.2.1, hR.2.2⟩ (Nat.le_of_ble_eq_true rfl) dX0_fewestOver_2 hP hD hS hA (fun H locs hP hD hS => ?_)
  have hP : va_P D vwCl (wdB cJ cI oB oBw oF oFr oFs oFc oFw y3 bfi bla bar y4 fw fc fwh fbo fra fst fco fro) H := hP.sub [0, 1, 2, 3, 4, 5, 6] rfl
  have hD : va_D A (wdB cJ cI oB oBw oF oFr oFs oFc oFw y3 bfi bla bar y4 fw fc fwh fbo fra fst fco fro) := hD.sub [0, 1, 2, 3, 4, 5, 6] (by decide) rfl
  refine lv_aload_n hx hb dX0_fewestOver_5 rfl (lv_at hl 0 rfl) ?_
  refine lv_lload_n hx hb dX0_fewestOver_6 rfl (lv_at hl 1 rfl) ?_
  refine lv_iconst (v := (0 : Int32)) hx hb dX0_fewestOver_7 (by decide) ?_
  refine lv_lload_n hx hb dX0_fewestOver_8 rfl (lv_at hl 1 rfl) ?_
  refine kJ13_bitCount_95d88 ⟨hx, hb, hml, hown, hts⟩ qw_379 hl.1 ⟨Nat.le_trans (by decide) hR.1, Nat.le_trans (by decide) hR.2.1, hR.2.2⟩ (Nat.le_of_ble_eq_true rfl) dX0_fewestOver_9 ?_
  obtain ⟨r6, h7, hm⟩ := jb_out hm
  refine kX0_fewest ⟨hx, hb, hml, hown, hts⟩ qw_555 hP hK h7 hl.1 ⟨Nat.le_trans (by decide) hR.1, Nat.le_trans (by decide) hR.2.1, hR.2.2⟩ (Nat.le_of_ble_eq_true rfl) dX0_fewestOver_12 ?_
  have hm := Option.some.inj hm
  have e9 : r = r6 := (congrArg (fun q => q.1) hm).symm
  rw [e9] at K
  have e9 : y_bsz = y3 := (congrArg (fun q => q.2.1) hm).symm
  rw [e9] at K
  have e9 : y_bwi = y4 := (congrArg (fun q => q.2.2) hm).symm
  rw [e9] at K
  exact K 15 ls _ _ dX0_fewestOver_15 hP hD hS
set_option maxHeartbeats 4000000 in
set_option maxRecDepth 100000 in
theorem tX0_fewestOver (l : Launch) {D : va_G} (sz : Nat) {n : Nat} {a1 : Int64} {r : Int32} {y_bsz : (Int32)} {y_bwi : (Nat → Int64)} (hm : mX0_fewestOver n fc fco fro fw fst fra bwi a1 = some (r, y_bsz, y_bwi)) : Met l yX0_fewestOver (.code yX0_fewestOver cX0_fewestOver 3 (some .int) :: tw) ({ frames := 27, cells := 0, slots := 0, locals := 724 } : Room) (wrZ D [.ref oB, .long a1] (wdB cJ cI oB oBw oF oFr oFs oFc oFw bsz bfi bla bar bwi fw fc fwh fbo fra fst fco fro) [(cI, .int), (cJ, .long)] tS tA sz) (va_Qi (fun q (_ : Unit) => q = r) (fun (_ : Unit) (t : State) => va_P D vwCl (wdB cJ cI oB oBw oF oFr oFs oFc oFw y_bsz bfi bla bar y_bwi fw fc fwh fbo fra fst fco fro) t.heap ∧ va_K D vwCl [(cI, .int), (cJ, .long)] t ∧ va_D (va_A (wdB cJ cI oB oBw oF oFr oFs oFc oFw bsz bfi bla bar bwi fw fc fwh fbo fra fst fco fro) sz) (wdB cJ cI oB oBw oF oFr oFs oFc oFw y_bsz bfi bla bar y_bwi fw fc fwh fbo fra fst fco fro)) (va_A (wdB cJ cI oB oBw oF oFr oFs oFc oFw bsz bfi bla bar bwi fw fc fwh fbo fra fst fco fro) sz)) 0 0 (va_A (wdB cJ cI oB oBw oF oFr oFs oFc oFw bsz bfi bla bar bwi fw fc fwh fbo fra fst fco fro) sz) := by
  refine Met.ofW (cc := cX0_fewestOver) (maxL := 3) (ret := (some .int)) (by decide) rfl ?_
  intro p e s m args below meth c s₁ B hml hv
  obtain ⟨rfl, hsz, hP, hK, hD0, hZ⟩ := hv
  have hx := B.exec
  have hb := B.bytes
  have hr := B.returns
  have hts : ∀ w ∈ tw, w.before _ s = true := fun w h => atoms_spec (ws := .code yX0_fewestOver cX0_fewestOver 3 (some .int) :: tw) B.pre w (List.mem_cons_of_mem _ h)
  have hown : s.vm.findClass RX0 = some m.cls := findClass_of_methodNamed B.named
  have hlocks := B.notSynchronized
  subst hsz
  have hD := hD0.self (sz := s.heap.size)
  have hl := lv_entry ([.ref oB, .long a1]) (n := 3) (Nat.le_of_ble_eq_true rfl)
  rw [lg_entry_eq]
  generalize (lg_sl ([.ref oB, .long a1]) ++ List.replicate (3 - (lg_sl ([.ref oB, .long a1])).length) Slot.unset).toArray = ls at hl ⊢
  refine bX0_fewestOver hx hb hml hown hts hK (fun q h => Or.inr h) hZ ⟨Nat.le_of_ble_eq_true rfl, Nat.le_of_ble_eq_true rfl, Nat.zero_le _, Nat.zero_le _⟩ hm ls hl hP hD va_S.rf (fun pc ls H locs hd hP hD hS => ?_)
  exact W.iret hx hb hr (fun t ht hW => ⟨⟨r, (), rfl, rfl, by rw [ht]; exact hP, va_K.moved hW.alike hK, hD⟩, hS.F ht⟩) hS.2.2 hd
set_option maxHeartbeats 4000000 in
set_option maxRecDepth 100000 in
theorem kX0_fewestOver {own : String} {cc : ByteArray} {nL idx pc : Nat} {ls : Array Slot} {rest : List Value} {ws wr : va_W} {n : Nat} {a1 : Int64} {r : Int32} {y_bsz : (Int32)} {y_bwi : (Nat → Int64)} (fx : CallFix p m c cc nL s args tw own) (hq : Cond.methodLink own idx yX0_fewestOver ∈ tw) (isC isR : List Nat) (hC : isC.map (fun i => ws[i]?) = ((wdB cJ cI oB oBw oF oFr oFs oFc oFw bsz bfi bla bar bwi fw fc fwh fbo fra fst fco fro) : va_W).map some) (hRr : isR.map (fun i => ws[i]?) = wr.map some) (hnC : va_nd isC = true) (hn : va_nd isR = true) (hdis : ∀ i ∈ isR, i ∉ isC) (hK : va_K D vwCl [(cI, .int), (cJ, .long)] s) (hZ : stZ A tS tA s s.heap) (hm : mX0_fewestOver n fc fco fro fw fst fra bwi a1 = some (r, y_bsz, y_bwi)) (hsz : ls.size = nL) (hR : 28 ≤ R.frames ∧ 746 ≤ R.locals ∧ cells ≤ R.cells ∧ slots ≤ R.slots) (hst : (rest.map fun v => v.category).sum ≤ 8) (hd : decode cc pc = .ok (.invokevirtual idx, 3)) (hP : va_P D vwCl ws H) (hD : va_D A ws) (hS : va_S A s.heap H locs) (hA : ∀ q, s.heap.size ≤ q → A q) (kk : ∀ (H : Heap) (locs : List Loc), va_P D vwCl (wr ++ (wdB cJ cI oB oBw oF oFr oFs oFc oFw y_bsz bfi bla bar y_bwi fw fc fwh fbo fra fst fco fro)) H → va_D A (wr ++ (wdB cJ cI oB oBw oF oFr oFs oFc oFw y_bsz bfi bla bar y_bwi fw fc fwh fbo fra fst fco fro)) → va_S A s.heap H locs → W p l e R s m args below meth c H locs cells slots Q (F0 m (pc + 3) ls (.int r :: rest))) : W p l e R s m args below meth c H locs cells slots Q (F0 m pc ls (.long a1 :: .ref oB :: rest)) := by
  have hPc := va_P.subM hP isC hC
  have hDc := hD.sub isC hnC hC
  have hFc := va_free (wc := (wdB cJ cI oB oBw oF oFr oFs oFc oFw bsz bfi bla bar bwi fw fc fwh fbo fra fst fco fro)) hD hS hA isC hC
  refine va_calli (va_runV (As := [.long a1]) (rest := rest) fx (tX0_fewestOver l H.size hm) (cwV 1 fx.2.2.2.2 (tw_V hq qw_560 qw_561 qw_267 qw_562) rfl rfl rfl (by decide +kernel) ⟨hR.1, hR.2.1⟩) ⟨wrZ_bl, va_recv hK hPc (ci := 0) (q0 := 0) rfl rfl, wrZ_ok hPc hK hDc (stZ_in hZ hS hFc)⟩ rfl rfl hsz rfl (lv_room hst) hd ⟨hR.2.2.1, hR.2.2.2⟩) hS (fun q _ h => hFc q h) hFc (fun r9 u t H1 locs ht hvm hw hB hz1 hk1 hS => ?_)
  obtain ⟨hP1, hK1, hD1⟩ := hB
  rw [ht] at hP1
  rw [hw]
  obtain ⟨hP2, hD2⟩ := va_join (wr := wr) (w1 := (wdB cJ cI oB oBw oF oFr oFs oFc oFw y_bsz bfi bla bar y_bwi fw fc fwh fbo fra fst fco fro)) hP hD isC isR hC hRr hn hdis hk1 hFc hP1 hD1
  exact kk H1 locs hP2 hD2 hS
-- X7_covered
def mX7_covered (n : Nat) (bsz : Int32) (bwi : Nat → Int64) (xpi : Nat → Int64) (fc : Int32) (fco : Nat → Int32) (fro : Nat → Int32) (fw : Int32) (fst : Nat → Int64) (fra : Nat → Int32) (a1 : Int32) : Option (Int32 × (Int32) × (Nat → Int64)) :=
  (if (mX7_isPicture a1) = 0 then (some ((-1 : Int32), bsz, bwi)) else gd (ib a1 5) ((if (mJ13_bitCount_95d88 (xpi a1.toNatClampNeg)) ≤ (20 : Int32) then gd (ib a1 5) (jb3 (mX0_fewestOver n fc fco fro fw fst fra bwi (xpi a1.toNatClampNeg)) (fun (r9 : Int32) (y10 : Int32) (y11 : Nat → Int64) => (some (r9, y10, y11)))) else (some ((-3 : Int32), bsz, bwi)))))
theorem dX7_covered_0 : decode cX7_covered 0 = .ok (.iload_n 1, 1) := by decide +kernel
theorem dX7_covered_1 : decode cX7_covered 1 = .ok (.invokestatic 81, 3) := by decide +kernel
theorem dX7_covered_4 : decode cX7_covered 4 = .ok (.ifCond .ne 5, 3) := by decide +kernel
theorem dX7_covered_7 : decode cX7_covered 7 = .ok (.iconst (-1), 1) := by decide +kernel
theorem dX7_covered_8 : decode cX7_covered 8 = .ok (.ireturn, 1) := by decide +kernel
theorem dX7_covered_9 : decode cX7_covered 9 = .ok (.aload_n 0, 1) := by decide +kernel
theorem dX7_covered_10 : decode cX7_covered 10 = .ok (.getfield 18, 3) := by decide +kernel
theorem dX7_covered_13 : decode cX7_covered 13 = .ok (.iload_n 1, 1) := by decide +kernel
theorem dX7_covered_14 : decode cX7_covered 14 = .ok (.laload, 1) := by decide +kernel
theorem dX7_covered_15 : decode cX7_covered 15 = .ok (.invokestatic 99, 3) := by decide +kernel
theorem dX7_covered_18 : decode cX7_covered 18 = .ok (.bipush 20, 2) := by decide +kernel
theorem dX7_covered_20 : decode cX7_covered 20 = .ok (.if_icmp .le 6, 3) := by decide +kernel
theorem dX7_covered_23 : decode cX7_covered 23 = .ok (.bipush (-3), 2) := by decide +kernel
theorem dX7_covered_25 : decode cX7_covered 25 = .ok (.ireturn, 1) := by decide +kernel
theorem dX7_covered_26 : decode cX7_covered 26 = .ok (.aload_n 0, 1) := by decide +kernel
theorem dX7_covered_27 : decode cX7_covered 27 = .ok (.getfield 66, 3) := by decide +kernel
theorem dX7_covered_30 : decode cX7_covered 30 = .ok (.aload_n 0, 1) := by decide +kernel
theorem dX7_covered_31 : decode cX7_covered 31 = .ok (.getfield 18, 3) := by decide +kernel
theorem dX7_covered_34 : decode cX7_covered 34 = .ok (.iload_n 1, 1) := by decide +kernel
theorem dX7_covered_35 : decode cX7_covered 35 = .ok (.laload, 1) := by decide +kernel
theorem dX7_covered_36 : decode cX7_covered 36 = .ok (.invokevirtual 212, 3) := by decide +kernel
theorem dX7_covered_39 : decode cX7_covered 39 = .ok (.ireturn, 1) := by decide +kernel
set_option maxHeartbeats 4000000 in
set_option maxRecDepth 100000 in
theorem bX7_covered {n : Nat} {a1 : Int32} {r : Int32} {y_bsz : (Int32)} {y_bwi : (Nat → Int64)} (hx : p.tables.exec = Jvm.exec) (hb : c.code = cX7_covered) (hml : c.maxLocals = 2) (hown : s.vm.findClass RX7 = some m.cls) (hts : ∀ w ∈ tw, w.before args s = true) (hK : va_K D vwCl [(cI, .int), (cJ, .long), (cG, .object "WornShapes$Program")] s) (hA : ∀ q, s.heap.size ≤ q → A q) (hZ : stZ A tS tA s s.heap) (hR : 28 ≤ R.frames ∧ 746 ≤ R.locals ∧ cells ≤ R.cells ∧ slots ≤ R.slots) (hm : mX7_covered n bsz bwi xpi fc fco fro fw fst fra a1 = some (r, y_bsz, y_bwi)) (ls : Array Slot) (hl : lv_has ls 2 [(0, .ref oX), (1, .int a1)]) (hP : va_P D vwCl (wdX cJ cG cI oX oXp oXg oG0 oGa0 oG1 oGa1 oG2 oGa2 oQ oQw oI oR oRh oRm oB oBw oS oSs oF oFr oFs oFc oFw xpi gs0 ga0 gs1 ga1 gs2 ga2 qln qwy ijn rsz rhi rmi bsz bfi bla bar bwi srim sst fw fc fwh fbo fra fst fco fro) H) (hD : va_D A (wdX cJ cG cI oX oXp oXg oG0 oGa0 oG1 oGa1 oG2 oGa2 oQ oQw oI oR oRh oRm oB oBw oS oSs oF oFr oFs oFc oFw xpi gs0 ga0 gs1 ga1 gs2 ga2 qln qwy ijn rsz rhi rmi bsz bfi bla bar bwi srim sst fw fc fwh fbo fra fst fco fro)) (hS : va_S A s.heap H locs) (K : ∀ (pc : Nat) (ls : Array Slot) (H : Heap) (locs : List Loc), decode cX7_covered pc = .ok (.ireturn, 1) → va_P D vwCl (wdX cJ cG cI oX oXp oXg oG0 oGa0 oG1 oGa1 oG2 oGa2 oQ oQw oI oR oRh oRm oB oBw oS oSs oF oFr oFs oFc oFw xpi gs0 ga0 gs1 ga1 gs2 ga2 qln qwy ijn rsz rhi rmi y_bsz bfi bla bar y_bwi srim sst fw fc fwh fbo fra fst fco fro) H → va_D A (wdX cJ cG cI oX oXp oXg oG0 oGa0 oG1 oGa1 oG2 oGa2 oQ oQw oI oR oRh oRm oB oBw oS oSs oF oFr oFs oFc oFw xpi gs0 ga0 gs1 ga1 gs2 ga2 qln qwy ijn rsz rhi rmi y_bsz bfi bla bar y_bwi srim sst fw fc fwh fbo fra fst fco fro) → va_S A s.heap H locs → W p l e R s m args below meth c H locs cells slots Q (F0 m pc ls [.int r])) : W p l e R s m args below meth c H locs cells slots Q (F0 m 0 ls []) := by
  unfold mX7_covered at hm
  refine lv_iload_n hx hb dX7_covered_0 rfl (lv_at hl 1 rfl) ?_
  refine kX7_isPicture ⟨hx, hb, hml, hown, hts⟩ qw_301 hl.1 ⟨Nat.le_trans (by decide) hR.1, Nat.le_trans (by decide) hR.2.1, hR.2.2⟩ (Nat.le_of_ble_eq_true rfl) dX7_covered_1 ?_
  refine lv_if_ne (tgt := 9) hx hb dX7_covered_4 (by decide) (fun c2 => ?_) (fun c2 => ?_)
  · rw [if_neg c2] at hm
    refine lv_aload_n hx hb dX7_covered_9 rfl (lv_at hl 0 rfl) ?_
    refine va_get (D := D) (ci := 7) (v := .ref oXp) (C := RX7) (T := TX7) (N := 8) hx hb hts tnX7 hown hK hP 0 rfl rfl 1 (by decide) (hts _ qw_297) (fun _ h9 => h9) rfl dX7_covered_10 ?_
    refine lv_iload_n hx hb dX7_covered_13 rfl (lv_at hl 1 rfl) ?_
    obtain ⟨g3, hm⟩ := gd_out hm
    refine va_lald hx hb hK hP 1 1 rfl rfl g3 dX7_covered_14 ?_
    refine kJ13_bitCount_95d88 ⟨hx, hb, hml, hown, hts⟩ qw_314 hl.1 ⟨Nat.le_trans (by decide) hR.1, Nat.le_trans (by decide) hR.2.1, hR.2.2⟩ (Nat.le_of_ble_eq_true rfl) dX7_covered_15 ?_
    refine lv_bipush (v := (20 : Int32)) hx hb dX7_covered_18 (by decide) ?_
    refine lv_icmp_le (tgt := 26) hx hb dX7_covered_20 (by decide) (fun c5 => ?_) (fun c5 => ?_)
    · rw [if_pos c5] at hm
      refine lv_aload_n hx hb dX7_covered_26 rfl (lv_at hl 0 rfl) ?_
      refine va_get (D := D) (ci := 7) (v := .ref oB) (C := RX7) (T := TX7) (N := 8) hx hb hts tnX7 hown hK hP 0 rfl rfl 7 (by decide) (hts _ qw_355) (fun _ h9 => h9) rfl dX7_covered_27 ?_
      refine lv_aload_n hx hb dX7_covered_30 rfl (lv_at hl 0 rfl) ?_
      refine va_get (D := D) (ci := 7) (v := .ref oXp) (C := RX7) (T := TX7) (N := 8) hx hb hts tnX7 hown hK hP 0 rfl rfl 1 (by decide) (hts _ qw_297) (fun _ h9 => h9) rfl dX7_covered_31 ?_
      refine lv_iload_n hx hb dX7_covered_34 rfl (lv_at hl 1 rfl) ?_
      obtain ⟨g6, hm⟩ := gd_out hm
      refine va_lald hx hb hK hP 1 1 rfl rfl g6 dX7_covered_35 ?_
      obtain ⟨r9, y10, y11, h8, hm⟩ := jb_out3 hm
      refine kX0_fewestOver (ws := (wdX cJ cG cI oX oXp oXg oG0 oGa0 oG1 oGa1 oG2 oGa2 oQ oQw oI oR oRh oRm oB oBw oS oSs oF oFr oFs oFc oFw xpi gs0 ga0 gs1 ga1 gs2 ga2 qln qwy ijn rsz rhi rmi bsz bfi bla bar bwi srim sst fw fc fwh fbo fra fst fco fro)) (wr := [(oX, .inr (7, [.ref oF, .ref oXp, .ref oS, .ref oXg, .ref oQ, .ref oI, .ref oR, .ref oB])), (oXp, .inl (cJ, 5, .inr (.inl xpi))), (oXg, .inl (cG, 3, .inr (.inr (.inr (.inr (va_p3 oG0 oG1 oG2)))))), (oG0, .inr (4, [.ref oS, .ref oGa0, .int gs0])), (oGa0, .inl (cI, 8, .inl ga0)), (oG1, .inr (4, [.ref oS, .ref oGa1, .int gs1])), (oGa1, .inl (cI, 8, .inl ga1)), (oG2, .inr (4, [.ref oS, .ref oGa2, .int gs2])), (oGa2, .inl (cI, 8, .inl ga2)), (oQ, .inr (5, [.ref oS, .ref oQw, .int qln])), (oQw, .inl (cI, 4, .inl qwy)), (oI, .inr (3, [.ref oF, .int ijn])), (oR, .inr (2, [.ref oF, .ref oS, .ref oRh, .ref oRm, .int rsz])), (oRh, .inl (cI, 8, .inl rhi)), (oRm, .inl (cI, 8, .inl rmi)), (oS, .inr (6, [.ref oF, .ref oSs, .int srim])), (oSs, .inl (cI, 4, .inl sst))]) ⟨hx, hb, hml, hown, hts⟩ qw_563 [15, 16, 19, 20, 21, 22, 23] [0, 1, 2, 3, 4, 5, 6, 7, 8, 9, 10, 11, 12, 13, 14, 17, 18] rfl rfl (by decide) (by decide) (by decide) (hK.sub (tys' := [(cI, .int), (cJ, .long)]) [0, 1] rfl) hZ h8 hl.1 ⟨Nat.le_trans (by decide) hR.1, Nat.le_trans (by decide) hR.2.1, hR.2.2⟩ (Nat.le_of_ble_eq_true rfl) dX7_covered_36 hP hD hS hA (fun H locs hP hD hS => ?_)
      have hP : va_P D vwCl (wdX cJ cG cI oX oXp oXg oG0 oGa0 oG1 oGa1 oG2 oGa2 oQ oQw oI oR oRh oRm oB oBw oS oSs oF oFr oFs oFc oFw xpi gs0 ga0 gs1 ga1 gs2 ga2 qln qwy ijn rsz rhi rmi y10 bfi bla bar y11 srim sst fw fc fwh fbo fra fst fco fro) H := hP.sub [0, 1, 2, 3, 4, 5, 6, 7, 8, 9, 10, 11, 12, 13, 14, 17, 18, 15, 16, 19, 20, 21, 22, 23] rfl
      have hD : va_D A (wdX cJ cG cI oX oXp oXg oG0 oGa0 oG1 oGa1 oG2 oGa2 oQ oQw oI oR oRh oRm oB oBw oS oSs oF oFr oFs oFc oFw xpi gs0 ga0 gs1 ga1 gs2 ga2 qln qwy ijn rsz rhi rmi y10 bfi bla bar y11 srim sst fw fc fwh fbo fra fst fco fro) := hD.sub [0, 1, 2, 3, 4, 5, 6, 7, 8, 9, 10, 11, 12, 13, 14, 17, 18, 15, 16, 19, 20, 21, 22, 23] (by decide) rfl
      have hm := Option.some.inj hm
      have e9 : r = r9 := (congrArg (fun q => q.1) hm).symm
      rw [e9] at K
      have e9 : y_bsz = y10 := (congrArg (fun q => q.2.1) hm).symm
      rw [e9] at K
      have e9 : y_bwi = y11 := (congrArg (fun q => q.2.2) hm).symm
      rw [e9] at K
      exact K 39 ls _ _ dX7_covered_39 hP hD hS
    · rw [if_neg c5] at hm
      refine lv_bipush (v := (-3 : Int32)) hx hb dX7_covered_23 (by decide) ?_
      have hm := Option.some.inj hm
      have e9 : r = (-3 : Int32) := (congrArg (fun q => q.1) hm).symm
      rw [e9] at K
      have e9 : y_bsz = bsz := (congrArg (fun q => q.2.1) hm).symm
      rw [e9] at K
      have e9 : y_bwi = bwi := (congrArg (fun q => q.2.2) hm).symm
      rw [e9] at K
      exact K 25 ls _ _ dX7_covered_25 hP hD hS
  · rw [if_pos c2] at hm
    refine lv_iconst (v := (-1 : Int32)) hx hb dX7_covered_7 (by decide) ?_
    have hm := Option.some.inj hm
    have e9 : r = (-1 : Int32) := (congrArg (fun q => q.1) hm).symm
    rw [e9] at K
    have e9 : y_bsz = bsz := (congrArg (fun q => q.2.1) hm).symm
    rw [e9] at K
    have e9 : y_bwi = bwi := (congrArg (fun q => q.2.2) hm).symm
    rw [e9] at K
    exact K 8 ls _ _ dX7_covered_8 hP hD hS
set_option maxHeartbeats 4000000 in
set_option maxRecDepth 100000 in
theorem tX7_covered (l : Launch) {D : va_G} (sz : Nat) {n : Nat} {a1 : Int32} {r : Int32} {y_bsz : (Int32)} {y_bwi : (Nat → Int64)} (hm : mX7_covered n bsz bwi xpi fc fco fro fw fst fra a1 = some (r, y_bsz, y_bwi)) : Met l yX7_covered (.code yX7_covered cX7_covered 2 (some .int) :: tw) ({ frames := 28, cells := 0, slots := 0, locals := 746 } : Room) (wrZ D [.ref oX, .int a1] (wdX cJ cG cI oX oXp oXg oG0 oGa0 oG1 oGa1 oG2 oGa2 oQ oQw oI oR oRh oRm oB oBw oS oSs oF oFr oFs oFc oFw xpi gs0 ga0 gs1 ga1 gs2 ga2 qln qwy ijn rsz rhi rmi bsz bfi bla bar bwi srim sst fw fc fwh fbo fra fst fco fro) [(cI, .int), (cJ, .long), (cG, .object "WornShapes$Program")] tS tA sz) (va_Qi (fun q (_ : Unit) => q = r) (fun (_ : Unit) (t : State) => va_P D vwCl (wdX cJ cG cI oX oXp oXg oG0 oGa0 oG1 oGa1 oG2 oGa2 oQ oQw oI oR oRh oRm oB oBw oS oSs oF oFr oFs oFc oFw xpi gs0 ga0 gs1 ga1 gs2 ga2 qln qwy ijn rsz rhi rmi y_bsz bfi bla bar y_bwi srim sst fw fc fwh fbo fra fst fco fro) t.heap ∧ va_K D vwCl [(cI, .int), (cJ, .long), (cG, .object "WornShapes$Program")] t ∧ va_D (va_A (wdX cJ cG cI oX oXp oXg oG0 oGa0 oG1 oGa1 oG2 oGa2 oQ oQw oI oR oRh oRm oB oBw oS oSs oF oFr oFs oFc oFw xpi gs0 ga0 gs1 ga1 gs2 ga2 qln qwy ijn rsz rhi rmi bsz bfi bla bar bwi srim sst fw fc fwh fbo fra fst fco fro) sz) (wdX cJ cG cI oX oXp oXg oG0 oGa0 oG1 oGa1 oG2 oGa2 oQ oQw oI oR oRh oRm oB oBw oS oSs oF oFr oFs oFc oFw xpi gs0 ga0 gs1 ga1 gs2 ga2 qln qwy ijn rsz rhi rmi y_bsz bfi bla bar y_bwi srim sst fw fc fwh fbo fra fst fco fro)) (va_A (wdX cJ cG cI oX oXp oXg oG0 oGa0 oG1 oGa1 oG2 oGa2 oQ oQw oI oR oRh oRm oB oBw oS oSs oF oFr oFs oFc oFw xpi gs0 ga0 gs1 ga1 gs2 ga2 qln qwy ijn rsz rhi rmi bsz bfi bla bar bwi srim sst fw fc fwh fbo fra fst fco fro) sz)) 0 0 (va_A (wdX cJ cG cI oX oXp oXg oG0 oGa0 oG1 oGa1 oG2 oGa2 oQ oQw oI oR oRh oRm oB oBw oS oSs oF oFr oFs oFc oFw xpi gs0 ga0 gs1 ga1 gs2 ga2 qln qwy ijn rsz rhi rmi bsz bfi bla bar bwi srim sst fw fc fwh fbo fra fst fco fro) sz) := by
  refine Met.ofW (cc := cX7_covered) (maxL := 2) (ret := (some .int)) (by decide) rfl ?_
  intro p e s m args below meth c s₁ B hml hv
  obtain ⟨rfl, hsz, hP, hK, hD0, hZ⟩ := hv
  have hx := B.exec
  have hb := B.bytes
  have hr := B.returns
  have hts : ∀ w ∈ tw, w.before _ s = true := fun w h => atoms_spec (ws := .code yX7_covered cX7_covered 2 (some .int) :: tw) B.pre w (List.mem_cons_of_mem _ h)
  have hown : s.vm.findClass RX7 = some m.cls := findClass_of_methodNamed B.named
  have hlocks := B.notSynchronized
  subst hsz
  have hD := hD0.self (sz := s.heap.size)
  have hl := lv_entry ([.ref oX, .int a1]) (n := 2) (Nat.le_of_ble_eq_true rfl)
  rw [lg_entry_eq]
  generalize (lg_sl ([.ref oX, .int a1]) ++ List.replicate (2 - (lg_sl ([.ref oX, .int a1])).length) Slot.unset).toArray = ls at hl ⊢
  refine bX7_covered hx hb hml hown hts hK (fun q h => Or.inr h) hZ ⟨Nat.le_of_ble_eq_true rfl, Nat.le_of_ble_eq_true rfl, Nat.zero_le _, Nat.zero_le _⟩ hm ls hl hP hD va_S.rf (fun pc ls H locs hd hP hD hS => ?_)
  exact W.iret hx hb hr (fun t ht hW => ⟨⟨r, (), rfl, rfl, by rw [ht]; exact hP, va_K.moved hW.alike hK, hD⟩, hS.F ht⟩) hS.2.2 hd
set_option maxHeartbeats 4000000 in
set_option maxRecDepth 100000 in
theorem kX7_covered {own : String} {cc : ByteArray} {nL idx pc : Nat} {ls : Array Slot} {rest : List Value} {ws wr : va_W} {n : Nat} {a1 : Int32} {r : Int32} {y_bsz : (Int32)} {y_bwi : (Nat → Int64)} (fx : CallFix p m c cc nL s args tw own) (hq : Cond.methodLink own idx yX7_covered ∈ tw) (isC isR : List Nat) (hC : isC.map (fun i => ws[i]?) = ((wdX cJ cG cI oX oXp oXg oG0 oGa0 oG1 oGa1 oG2 oGa2 oQ oQw oI oR oRh oRm oB oBw oS oSs oF oFr oFs oFc oFw xpi gs0 ga0 gs1 ga1 gs2 ga2 qln qwy ijn rsz rhi rmi bsz bfi bla bar bwi srim sst fw fc fwh fbo fra fst fco fro) : va_W).map some) (hRr : isR.map (fun i => ws[i]?) = wr.map some) (hnC : va_nd isC = true) (hn : va_nd isR = true) (hdis : ∀ i ∈ isR, i ∉ isC) (hK : va_K D vwCl [(cI, .int), (cJ, .long), (cG, .object "WornShapes$Program")] s) (hZ : stZ A tS tA s s.heap) (hm : mX7_covered n bsz bwi xpi fc fco fro fw fst fra a1 = some (r, y_bsz, y_bwi)) (hsz : ls.size = nL) (hR : 29 ≤ R.frames ∧ 767 ≤ R.locals ∧ cells ≤ R.cells ∧ slots ≤ R.slots) (hst : (rest.map fun v => v.category).sum ≤ 8) (hd : decode cc pc = .ok (.invokevirtual idx, 3)) (hP : va_P D vwCl ws H) (hD : va_D A ws) (hS : va_S A s.heap H locs) (hA : ∀ q, s.heap.size ≤ q → A q) (kk : ∀ (H : Heap) (locs : List Loc), va_P D vwCl (wr ++ (wdX cJ cG cI oX oXp oXg oG0 oGa0 oG1 oGa1 oG2 oGa2 oQ oQw oI oR oRh oRm oB oBw oS oSs oF oFr oFs oFc oFw xpi gs0 ga0 gs1 ga1 gs2 ga2 qln qwy ijn rsz rhi rmi y_bsz bfi bla bar y_bwi srim sst fw fc fwh fbo fra fst fco fro)) H → va_D A (wr ++ (wdX cJ cG cI oX oXp oXg oG0 oGa0 oG1 oGa1 oG2 oGa2 oQ oQw oI oR oRh oRm oB oBw oS oSs oF oFr oFs oFc oFw xpi gs0 ga0 gs1 ga1 gs2 ga2 qln qwy ijn rsz rhi rmi y_bsz bfi bla bar y_bwi srim sst fw fc fwh fbo fra fst fco fro)) → va_S A s.heap H locs → W p l e R s m args below meth c H locs cells slots Q (F0 m (pc + 3) ls (.int r :: rest))) : W p l e R s m args below meth c H locs cells slots Q (F0 m pc ls (.int a1 :: .ref oX :: rest)) := by
  have hPc := va_P.subM hP isC hC
  have hDc := hD.sub isC hnC hC
  have hFc := va_free (wc := (wdX cJ cG cI oX oXp oXg oG0 oGa0 oG1 oGa1 oG2 oGa2 oQ oQw oI oR oRh oRm oB oBw oS oSs oF oFr oFs oFc oFw xpi gs0 ga0 gs1 ga1 gs2 ga2 qln qwy ijn rsz rhi rmi bsz bfi bla bar bwi srim sst fw fc fwh fbo fra fst fco fro)) hD hS hA isC hC
  refine va_calli (va_runV (As := [.int a1]) (rest := rest) fx (tX7_covered l H.size hm) (cwV 1 fx.2.2.2.2 (tw_V hq qw_564 qw_565 qw_288 qw_566) rfl rfl rfl (by decide +kernel) ⟨hR.1, hR.2.1⟩) ⟨wrZ_bl, va_recv hK hPc (ci := 7) (q0 := 0) rfl rfl, wrZ_ok hPc hK hDc (stZ_in hZ hS hFc)⟩ rfl rfl hsz rfl (lv_room hst) hd ⟨hR.2.2.1, hR.2.2.2⟩) hS (fun q _ h => hFc q h) hFc (fun r9 u t H1 locs ht hvm hw hB hz1 hk1 hS => ?_)
  obtain ⟨hP1, hK1, hD1⟩ := hB
  rw [ht] at hP1
  rw [hw]
  obtain ⟨hP2, hD2⟩ := va_join (wr := wr) (w1 := (wdX cJ cG cI oX oXp oXg oG0 oGa0 oG1 oGa1 oG2 oGa2 oQ oQw oI oR oRh oRm oB oBw oS oSs oF oFr oFs oFc oFw xpi gs0 ga0 gs1 ga1 gs2 ga2 qln qwy ijn rsz rhi rmi y_bsz bfi bla bar y_bwi srim sst fw fc fwh fbo fra fst fco fro)) hP hD isC isR hC hRr hn hdis hk1 hFc hP1 hD1
  exact kk H1 locs hP2 hD2 hS
end
