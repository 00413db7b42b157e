theorem qw_44 : Cond.fieldLink RX1 55 "WornShapes$Field" "SIDE_STEPS" "[I" ∈ tw := tw_of (by decide +kernel) rfl
theorem qw_45 : Cond.methodLink RX1 58 yJ13_bitCount_95d88 ∈ tw := tw_of (by decide +kernel) rfl
theorem qw_46 : Cond.instanceMethod yX1_sidesOf ∈ tw := tw_of (by decide +kernel) rfl
theorem qw_47 : Cond.selects RX1 yX1_sidesOf yX1_sidesOf ∈ tw := tw_of (by decide +kernel) rfl
theorem qw_48 : Cond.code yX1_sidesOf cX1_sidesOf 8 (some .int) ∈ tw := tw_of (by decide +kernel) rfl
theorem qw_49 : Cond.instanceMethod yX1_canWiden ∈ tw := tw_of (by decide +kernel) rfl
theorem qw_50 : Cond.selects RX1 yX1_canWiden yX1_canWiden ∈ tw := tw_of (by decide +kernel) rfl
theorem qw_51 : Cond.code yX1_canWiden cX1_canWiden 10 (some .boolean) ∈ tw := tw_of (by decide +kernel) rfl
section
variable {A : Nat → Prop} {p : Program} {l : Launch} {e : Env} {R : Room} {s : State} {m : MethodId} {args : Array Value} {below : List Frame} {meth : Method} {c : Code} {H : Heap} {locs : List Loc} {cells slots : Nat} {Q : State → Prop} {D : va_G} {oF : Nat} {oFr : Nat} {oFs : Nat} {oFc : Nat} {oFw : Nat} {oS : Nat} {oSs : Nat} {oG : Nat} {oGa : Nat} {oQ : Nat} {oQw : Nat} {oI : Nat} {oR : Nat} {oRh : Nat} {oRm : Nat} {oB : Nat} {oBw : Nat} {oX : Nat} {oXp : Nat} {oXg : Nat} {oG0 : Nat} {oGa0 : Nat} {oG1 : Nat} {oGa1 : Nat} {oG2 : Nat} {oGa2 : Nat} {oM : Nat} {oM1 : Nat} {oM2 : Nat} {oM3 : Nat} {oM4 : Nat} {oM5 : Nat} {oM6 : Nat} {oM7 : Nat} {oM8 : Nat} {oM9 : Nat} {oM10 : Nat} {oM11 : Nat} {tS : Nat} {tA : Nat} {cI : ClassId} {cJ : ClassId} {cG : ClassId} {fw : Int32} {fc : Int32} {fwh : Int64} {fbo : Int64} {fra : Nat → Int32} {fco : Nat → Int32} {fro : Nat → Int32} {fst : Nat → Int64} {srim : Int32} {sst : Nat → Int32} {gsz : Int32} {gac : Nat → Int32} {qln : Int32} {qwy : Nat → Int32} {ijn : Int32} {rsz : Int32} {rhi : Nat → Int32} {rmi : Nat → Int32} {bsz : Int32} {bfi : Int32} {bla : Int32} {bar : Int32} {bwi : Nat → Int64} {xpi : Nat → Int64} {gs0 : Int32} {gs1 : Int32} {gs2 : Int32} {ga0 : Nat → Int32} {ga1 : Nat → Int32} {ga2 : Nat → Int32} {mw : Int32} {mt : Int32} {mrim : Int32} {mjn : Int32} {mhm : Int32} {mpn : Int32} {mbm : Int32} {mgm : Int32} {mpi : Nat → Int64} {mbe : Nat → Int64} {mgr : Nat → Int64} {mle : Nat → Int64} {mst : Nat → Int32} {mam : Nat → Int32} {mac : Nat → Int32} {mro : Nat → Int32} {mhi : Nat → Int32} {mmi : Nat → Int32} {mtr : Nat → Int32}
-- X1_sidesOf
def mX1_sidesOf_L15 (n : Nat) (v5 : Int32) (fra : Nat → Int32) (fst : Nat → Int64) (v1 : Int64) : Nat → (Int32) → (Int32) → Option ((Int32))
  | 0, _, _ => none
  | k + 1, v3, v6 => (if v5 ≤ v6 then some (v3) else gd (ib v6 4) (jb (mX1_behind fra fst v1 (side4 v6.toNatClampNeg)) (fun (r4 : Int64) => mX1_sidesOf_L15 n v5 fra fst v1 k (v3 + (mJ13_bitCount_95d88 (v1 &&& (r4 ^^^ (-1 : Int64))))) (v6 + (1 : Int32)))))
def mX1_sidesOf (n : Nat) (fra : Nat → Int32) (fst : Nat → Int64) (a1 : Int64) : Option Int32 :=
  jb (mX1_sidesOf_L15 n (4 : Int32) fra fst a1 n (0 : Int32) (0 : Int32)) (fun (y7 : Int32) => (some y7))
theorem dX1_sidesOf_0 : decode cX1_sidesOf 0 = .ok (.iconst 0, 1) := by decide +kernel
theorem dX1_sidesOf_1 : decode cX1_sidesOf 1 = .ok (.istore_n 3, 1) := by decide +kernel
theorem dX1_sidesOf_2 : decode cX1_sidesOf 2 = .ok (.getstatic 55, 3) := by decide +kernel
theorem dX1_sidesOf_5 : decode cX1_sidesOf 5 = .ok (.astore 4, 2) := by decide +kernel
theorem dX1_sidesOf_7 : decode cX1_sidesOf 7 = .ok (.aload 4, 2) := by decide +kernel
theorem dX1_sidesOf_9 : decode cX1_sidesOf 9 = .ok (.arraylength, 1) := by decide +kernel
theorem dX1_sidesOf_10 : decode cX1_sidesOf 10 = .ok (.istore 5, 2) := by decide +kernel
theorem dX1_sidesOf_12 : decode cX1_sidesOf 12 = .ok (.iconst 0, 1) := by decide +kernel
theorem dX1_sidesOf_13 : decode cX1_sidesOf 13 = .ok (.istore 6, 2) := by decide +kernel
theorem dX1_sidesOf_15 : decode cX1_sidesOf 15 = .ok (.iload 6, 2) := by decide +kernel
theorem dX1_sidesOf_17 : decode cX1_sidesOf 17 = .ok (.iload 5, 2) := by decide +kernel
theorem dX1_sidesOf_19 : decode cX1_sidesOf 19 = .ok (.if_icmp .ge 35, 3) := by decide +kernel
theorem dX1_sidesOf_22 : decode cX1_sidesOf 22 = .ok (.aload 4, 2) := by decide +kernel
theorem dX1_sidesOf_24 : decode cX1_sidesOf 24 = .ok (.iload 6, 2) := by decide +kernel
theorem dX1_sidesOf_26 : decode cX1_sidesOf 26 = .ok (.iaload, 1) := by decide +kernel
theorem dX1_sidesOf_27 : decode cX1_sidesOf 27 = .ok (.istore 7, 2) := by decide +kernel
theorem dX1_sidesOf_29 : decode cX1_sidesOf 29 = .ok (.iload_n 3, 1) := by decide +kernel
theorem dX1_sidesOf_30 : decode cX1_sidesOf 30 = .ok (.lload_n 1, 1) := by decide +kernel
theorem dX1_sidesOf_31 : decode cX1_sidesOf 31 = .ok (.aload_n 0, 1) := by decide +kernel
theorem dX1_sidesOf_32 : decode cX1_sidesOf 32 = .ok (.lload_n 1, 1) := by decide +kernel
theorem dX1_sidesOf_33 : decode cX1_sidesOf 33 = .ok (.iload 7, 2) := by decide +kernel
theorem dX1_sidesOf_35 : decode cX1_sidesOf 35 = .ok (.invokevirtual 52, 3) := by decide +kernel
theorem dX1_sidesOf_38 : decode cX1_sidesOf 38 = .ok (.ldc2_w 46, 3) := by decide +kernel
theorem dX1_sidesOf_41 : decode cX1_sidesOf 41 = .ok (.lxor, 1) := by decide +kernel
theorem dX1_sidesOf_42 : decode cX1_sidesOf 42 = .ok (.land, 1) := by decide +kernel
theorem dX1_sidesOf_43 : decode cX1_sidesOf 43 = .ok (.invokestatic 58, 3) := by decide +kernel
theorem dX1_sidesOf_46 : decode cX1_sidesOf 46 = .ok (.iadd, 1) := by decide +kernel
theorem dX1_sidesOf_47 : decode cX1_sidesOf 47 = .ok (.istore_n 3, 1) := by decide +kernel
theorem dX1_sidesOf_48 : decode cX1_sidesOf 48 = .ok (.iinc 6 1, 3) := by decide +kernel
theorem dX1_sidesOf_51 : decode cX1_sidesOf 51 = .ok (.goto (-36), 3) := by decide +kernel
theorem dX1_sidesOf_54 : decode cX1_sidesOf 54 = .ok (.iload_n 3, 1) := by decide +kernel
theorem dX1_sidesOf_55 : decode cX1_sidesOf 55 = .ok (.ireturn, 1) := by decide +kernel
set_option maxHeartbeats 4000000 in
set_option maxRecDepth 100000 in
theorem wX1_sidesOf_L15 {n : Nat} {v1 : Int64} {v5 : Int32} (hx : p.tables.exec = Jvm.exec) (hb : c.code = cX1_sidesOf) (hml : c.maxLocals = 8) (hown : s.vm.findClass RX1 = some m.cls) (hts : ∀ w ∈ tw, w.before args s = true) (hK : va_K D vwCl [(cI, .int), (cJ, .long)] s) (hP : va_P D vwCl (wdF cI cJ oF oFr oFs oFc oFw fw fc fwh fbo fra fst fco fro) H) (hZ : stZ (fun _ => False) tS tA s s.heap) (hSz : va_S (fun _ => False) s.heap H locs) (hR : 1 ≤ R.frames ∧ 24 ≤ R.locals ∧ cells ≤ R.cells ∧ slots ≤ R.slots) : ∀ (k : Nat) (v3 : Int32) (v6 : Int32) (x3 : Int32), mX1_sidesOf_L15 n v5 fra fst v1 k v3 v6 = some (x3) → ∀ ls : Array Slot, lv_has ls 8 [(0, .ref oF), (1, .long v1), (3, .int v3), (4, .ref tS), (5, .int v5), (6, .int v6)] → (∀ ls : Array Slot, lv_has ls 8 [(3, .int x3)] → W p l e R s m args below meth c H locs cells slots Q (F0 m 54 ls [])) → W p l e R s m args below meth c H locs cells slots Q (F0 m 15 ls []) := by
  intro k
  induction k with
  | zero => intro v3 v6 x3 hm; rw [mX1_sidesOf_L15] at hm; cases hm
  | succ k ih =>
    intro v3 v6 x3 hm ls hl K0
    rw [mX1_sidesOf_L15] at hm
    refine lv_iload hx hb dX1_sidesOf_15 (lv_at hl 5 rfl) ?_
    refine lv_iload hx hb dX1_sidesOf_17 (lv_at hl 4 rfl) ?_
    refine lv_icmp_ge (tgt := 54) hx hb dX1_sidesOf_19 (by decide) (fun c2 => ?_) (fun c2 => ?_)
    · rw [if_pos c2] at hm
      have hm := Option.some.inj hm
      have e9 : x3 = v3 := (congrArg (fun q => q) hm).symm
      rw [e9] at K0
      exact K0 ls (lv_sub hl [2] rfl)
    · rw [if_neg c2] at hm
      refine lv_aload hx hb dX1_sidesOf_22 (lv_at hl 3 rfl) ?_
      refine lv_iload hx hb dX1_sidesOf_24 (lv_at hl 5 rfl) ?_
      obtain ⟨g3, hm⟩ := gd_out hm
      refine va_ti (v := .int (side4 v6.toNatClampNeg)) hx hb hZ.2.1 hSz g3 rfl dX1_sidesOf_26 ?_
      refine lv_istore (lv' := [(7, .int (side4 v6.toNatClampNeg)), (0, .ref oF), (1, .long v1), (3, .int v3), (4, .ref tS), (5, .int v5), (6, .int v6)]) hx hb dX1_sidesOf_27 hl (by decide) rfl (fun ls hl => ?_)
      refine lv_iload_n hx hb dX1_sidesOf_29 rfl (lv_at hl 3 rfl) ?_
      refine lv_lload_n hx hb dX1_sidesOf_30 rfl (lv_at hl 2 rfl) ?_
      refine lv_aload_n hx hb dX1_sidesOf_31 rfl (lv_at hl 1 rfl) ?_
      refine lv_lload_n hx hb dX1_sidesOf_32 rfl (lv_at hl 2 rfl) ?_
      refine lv_iload hx hb dX1_sidesOf_33 (lv_at hl 0 rfl) ?_
      obtain ⟨r4, h5, hm⟩ := jb_out hm
      refine kX1_behind ⟨hx, hb, hml, hown, hts⟩ qw_33 hP hK h5 hl.1 ⟨Nat.le_trans (by decide) hR.1, Nat.le_trans (by decide) hR.2.1, hR.2.2⟩ (Nat.le_of_ble_eq_true rfl) dX1_sidesOf_35 ?_
      refine lv_ldc2 (v := (-1 : Int64)) hx hb hown (hts _ qw_34) dX1_sidesOf_38 ?_
      refine lv_lxor hx hb dX1_sidesOf_41 ?_
      refine lv_land hx hb dX1_sidesOf_42 ?_
      refine kJ13_bitCount_95d88 ⟨hx, hb, hml, hown, hts⟩ qw_45 hl.1 ⟨Nat.le_trans (by decide) hR.1, Nat.le_trans (by decide) hR.2.1, hR.2.2⟩ (Nat.le_of_ble_eq_true rfl) dX1_sidesOf_43 ?_
      refine lv_iadd hx hb dX1_sidesOf_46 ?_
      refine lv_istore_n (lv' := [(3, .int (v3 + (mJ13_bitCount_95d88 (v1 &&& (r4 ^^^ (-1 : Int64)))))), (7, .int (side4 v6.toNatClampNeg)), (0, .ref oF), (1, .long v1), (4, .ref tS), (5, .int v5), (6, .int v6)]) hx hb dX1_sidesOf_47 rfl hl (by decide) rfl (fun ls hl => ?_)
      refine lv_iinc (v := (v6 + (1 : Int32))) (lv' := [(6, .int (v6 + (1 : Int32))), (3, .int (v3 + (mJ13_bitCount_95d88 (v1 &&& (r4 ^^^ (-1 : Int64)))))), (7, .int (side4 v6.toNatClampNeg)), (0, .ref oF), (1, .long v1), (4, .ref tS), (5, .int v5)]) hx hb dX1_sidesOf_48 hl (k := 6) rfl (by rfl) (by decide) rfl (fun ls hl => ?_)
      refine lv_goto (tgt := 15) hx hb dX1_sidesOf_51 (by decide) ?_
      exact ih _ _ _ hm ls (lv_sub hl [3, 4, 1, 5, 6, 0] rfl) K0
set_option maxHeartbeats 4000000 in
set_option maxRecDepth 100000 in
theorem bX1_sidesOf {n : Nat} {a1 : Int64} {r : Int32} (hx : p.tables.exec = Jvm.exec) (hb : c.code = cX1_sidesOf) (hml : c.maxLocals = 8) (hown : s.vm.findClass RX1 = some m.cls) (hts : ∀ w ∈ tw, w.before args s = true) (hK : va_K D vwCl [(cI, .int), (cJ, .long)] s) (hP : va_P D vwCl (wdF cI cJ oF oFr oFs oFc oFw fw fc fwh fbo fra fst fco fro) H) (hZ : stZ (fun _ => False) tS tA s s.heap) (hSz : va_S (fun _ => False) s.heap H locs) (hR : 1 ≤ R.frames ∧ 24 ≤ R.locals ∧ cells ≤ R.cells ∧ slots ≤ R.slots) (hm : mX1_sidesOf n fra fst a1 = some r) (ls : Array Slot) (hl : lv_has ls 8 [(0, .ref oF), (1, .long a1)]) (K : ∀ (pc : Nat) (ls : Array Slot), decode cX1_sidesOf pc = .ok (.ireturn, 1) → W p l e R s m args below meth c H locs cells slots Q (F0 m pc ls [.int r])) : W p l e R s m args below meth c H locs cells slots Q (F0 m 0 ls []) := by
  unfold mX1_sidesOf at hm
  refine lv_iconst (v := (0 : Int32)) hx hb dX1_sidesOf_0 (by decide) ?_
  refine lv_istore_n (lv' := [(3, .int (0 : Int32)), (0, .ref oF), (1, .long a1)]) hx hb dX1_sidesOf_1 rfl hl (by decide) rfl (fun ls hl => ?_)
  refine va_gets hx hb hZ.1 hSz hown (hts _ qw_44) (fun _ h9 => h9) dX1_sidesOf_2 ?_
  refine lv_astore (lv' := [(4, .ref tS), (3, .int (0 : Int32)), (0, .ref oF), (1, .long a1)]) hx hb dX1_sidesOf_5 hl (by decide) rfl (fun ls hl => ?_)
  refine lv_aload hx hb dX1_sidesOf_7 (lv_at hl 0 rfl) ?_
  refine va_tlen (v := (4 : Int32)) hx hb hZ.2.1 hSz rfl dX1_sidesOf_9 ?_
  refine lv_istore (lv' := [(5, .int (4 : Int32)), (4, .ref tS), (3, .int (0 : Int32)), (0, .ref oF), (1, .long a1)]) hx hb dX1_sidesOf_10 hl (by decide) rfl (fun ls hl => ?_)
  refine lv_iconst (v := (0 : Int32)) hx hb dX1_sidesOf_12 (by decide) ?_
  refine lv_istore (lv' := [(6, .int (0 : Int32)), (5, .int (4 : Int32)), (4, .ref tS), (3, .int (0 : Int32)), (0, .ref oF), (1, .long a1)]) hx hb dX1_sidesOf_13 hl (by decide) rfl (fun ls hl => ?_)
  obtain ⟨y7, h8, hm⟩ := jb_out hm
  refine wX1_sidesOf_L15 hx hb hml hown hts hK hP hZ hSz hR n _ _ _  h8 ls (lv_sub hl [4, 5, 3, 2, 1, 0] rfl) (fun ls hl => ?_)
  refine lv_iload_n hx hb dX1_sidesOf_54 rfl (lv_at hl 0 rfl) ?_
  have hm := Option.some.inj hm
  subst hm
  exact K 55 ls dX1_sidesOf_55
set_option maxHeartbeats 4000000 in
set_option maxRecDepth 100000 in
theorem tX1_sidesOf (l : Launch) {D : va_G} {n : Nat} {a1 : Int64} {r : Int32} (hm : mX1_sidesOf n fra fst a1 = some r) : Met l yX1_sidesOf (.code yX1_sidesOf cX1_sidesOf 8 (some .int) :: tw) ({ frames := 1, cells := 0, slots := 0, locals := 24 } : Room) (rdZ D [.ref oF, .long a1] (wdF cI cJ oF oFr oFs oFc oFw fw fc fwh fbo fra fst fco fro) [(cI, .int), (cJ, .long)] tS tA) (vp_Si (fun q => q = r)) 0 0 (fun _ => False) := by
  refine Met.ofW (cc := cX1_sidesOf) (maxL := 8) (ret := (some .int)) (by decide) rfl ?_
  intro p e s m args below meth c s₁ B hml hv
  obtain ⟨rfl, hP, hK, hZ⟩ := hv
  have hx := B.exec
  have hb := B.bytes
  have hr := B.returns
  have hts : ∀ w ∈ tw, w.before _ s = true := fun w h => atoms_spec (ws := .code yX1_sidesOf cX1_sidesOf 8 (some .int) :: tw) B.pre w (List.mem_cons_of_mem _ h)
  have hown : s.vm.findClass RX1 = some m.cls := findClass_of_methodNamed B.named
  have hlocks := B.notSynchronized
  have hl := lv_entry ([.ref oF, .long a1]) (n := 8) (Nat.le_of_ble_eq_true rfl)
  rw [lg_entry_eq]
  generalize (lg_sl ([.ref oF, .long a1]) ++ List.replicate (8 - (lg_sl ([.ref oF, .long a1])).length) Slot.unset).toArray = ls at hl ⊢
  refine bX1_sidesOf hx hb hml hown hts hK hP hZ va_S.rf ⟨Nat.le_of_ble_eq_true rfl, Nat.le_of_ble_eq_true rfl, Nat.zero_le _, Nat.zero_le _⟩ hm ls hl (fun pc ls hd => ?_)
  exact W.iret hx hb hr (fun t ht hW => ⟨r, rfl, rfl, ht⟩) (fun q h => by cases h) hd
set_option maxHeartbeats 4000000 in
set_option maxRecDepth 100000 in
theorem kX1_sidesOf {own : String} {cc : ByteArray} {nL idx pc : Nat} {ls : Array Slot} {rest : List Value} {n : Nat} {a1 : Int64} {r : Int32} (fx : CallFix p m c cc nL s args tw own) (hq : Cond.methodLink own idx yX1_sidesOf ∈ tw) (hP : va_P D vwCl (wdF cI cJ oF oFr oFs oFc oFw fw fc fwh fbo fra fst fco fro) H) (hK : va_K D vwCl [(cI, .int), (cJ, .long)] s) (hz : stZ (fun _ => False) tS tA s H) (hm : mX1_sidesOf n fra fst a1 = some r) (hsz : ls.size = nL) (hR : 2 ≤ R.frames ∧ 51 ≤ R.locals ∧ cells ≤ R.cells ∧ slots ≤ R.slots) (hst : (rest.map fun v => v.category).sum ≤ 8) (hd : decode cc pc = .ok (.invokevirtual idx, 3)) (kk : W p l e R s m args below meth c H locs cells slots Q (F0 m (pc + 3) ls (.int r :: rest))) : W p l e R s m args below meth c H locs cells slots Q (F0 m pc ls (.long a1 :: .ref oF :: rest)) := by
  exact vp_callSi (va_Run.run (va_runV (As := [.long a1]) (rest := rest) fx (tX1_sidesOf l hm) (cwV 1 fx.2.2.2.2 (tw_V hq qw_46 qw_47 qw_18 qw_48) rfl rfl rfl (by decide +kernel) ⟨hR.1, hR.2.1⟩) ⟨rdZ_bl, va_recv hK hP (ci := 1) (q0 := 0) rfl rfl, rdZ_ok hP hK hz⟩ rfl rfl hsz rfl (lv_room hst) hd ⟨hR.2.2.1, hR.2.2.2⟩)) (fun r9 hr9 => by first | (rw [hr9]; exact kk) | (rw [hr9.1]; exact kk))
-- X1_canWiden
def mX1_canWiden_L13 (n : Nat) (v6 : Int32) (v1 : Int64) (fst : Nat → Int64) (fra : Nat → Int32) (v3 : Int64) : Nat → (Int32) → Option ((Unit) ⊕ (Unit))
  | 0, _ => none
  | k + 1, v7 => (if v6 ≤ v7 then some (.inr (())) else gd (ib v7 4) (gd (ib (side4 v7.toNatClampNeg) 9) (jl (if (v1 &&& ((fst (side4 v7.toNatClampNeg).toNatClampNeg) ^^^ (-1 : Int64))) = (0 : Int64) then (1 : Int32) else (0 : Int32)) (fun j5 => (if j5 = 0 then mX1_canWiden_L13 n v6 v1 fst fra v3 k (v7 + (1 : Int32)) else jb (mX1_ahead fra fst v1 (side4 v7.toNatClampNeg)) (fun (r10 : Int64) => (if (r10 &&& (v3 ^^^ (-1 : Int64))) = (0 : Int64) then some (.inl (())) else mX1_canWiden_L13 n v6 v1 fst fra v3 k (v7 + (1 : Int32)))))))))
def mX1_canWiden (n : Nat) (fst : Nat → Int64) (fra : Nat → Int32) (a1 : Int64) (a3 : Int64) : Option Int32 :=
  jb (mX1_canWiden_L13 n (4 : Int32) a1 fst fra a3 n (0 : Int32)) (fun q => el2 q (fun (_ : Unit) => (some (1 : Int32))) (fun (_ : Unit) => (some (0 : Int32))))
theorem dX1_canWiden_0 : decode cX1_canWiden 0 = .ok (.getstatic 55, 3) := by decide +kernel
theorem dX1_canWiden_3 : decode cX1_canWiden 3 = .ok (.astore 5, 2) := by decide +kernel
theorem dX1_canWiden_5 : decode cX1_canWiden 5 = .ok (.aload 5, 2) := by decide +kernel
theorem dX1_canWiden_7 : decode cX1_canWiden 7 = .ok (.arraylength, 1) := by decide +kernel
theorem dX1_canWiden_8 : decode cX1_canWiden 8 = .ok (.istore 6, 2) := by decide +kernel
theorem dX1_canWiden_10 : decode cX1_canWiden 10 = .ok (.iconst 0, 1) := by decide +kernel
theorem dX1_canWiden_11 : decode cX1_canWiden 11 = .ok (.istore 7, 2) := by decide +kernel
theorem dX1_canWiden_13 : decode cX1_canWiden 13 = .ok (.iload 7, 2) := by decide +kernel
theorem dX1_canWiden_15 : decode cX1_canWiden 15 = .ok (.iload 6, 2) := by decide +kernel
theorem dX1_canWiden_17 : decode cX1_canWiden 17 = .ok (.if_icmp .ge 66, 3) := by decide +kernel
theorem dX1_canWiden_20 : decode cX1_canWiden 20 = .ok (.aload 5, 2) := by decide +kernel
theorem dX1_canWiden_22 : decode cX1_canWiden 22 = .ok (.iload 7, 2) := by decide +kernel
theorem dX1_canWiden_24 : decode cX1_canWiden 24 = .ok (.iaload, 1) := by decide +kernel
theorem dX1_canWiden_25 : decode cX1_canWiden 25 = .ok (.istore 8, 2) := by decide +kernel
theorem dX1_canWiden_27 : decode cX1_canWiden 27 = .ok (.lload_n 1, 1) := by decide +kernel
theorem dX1_canWiden_28 : decode cX1_canWiden 28 = .ok (.aload_n 0, 1) := by decide +kernel
theorem dX1_canWiden_29 : decode cX1_canWiden 29 = .ok (.getfield 15, 3) := by decide +kernel
theorem dX1_canWiden_32 : decode cX1_canWiden 32 = .ok (.iload 8, 2) := by decide +kernel
theorem dX1_canWiden_34 : decode cX1_canWiden 34 = .ok (.laload, 1) := by decide +kernel
theorem dX1_canWiden_35 : decode cX1_canWiden 35 = .ok (.ldc2_w 46, 3) := by decide +kernel
theorem dX1_canWiden_38 : decode cX1_canWiden 38 = .ok (.lxor, 1) := by decide +kernel
theorem dX1_canWiden_39 : decode cX1_canWiden 39 = .ok (.land, 1) := by decide +kernel
theorem dX1_canWiden_40 : decode cX1_canWiden 40 = .ok (.lconst 0, 1) := by decide +kernel
theorem dX1_canWiden_41 : decode cX1_canWiden 41 = .ok (.lcmp, 1) := by decide +kernel
theorem dX1_canWiden_42 : decode cX1_canWiden 42 = .ok (.ifCond .ne 7, 3) := by decide +kernel
theorem dX1_canWiden_45 : decode cX1_canWiden 45 = .ok (.iconst 1, 1) := by decide +kernel
theorem dX1_canWiden_46 : decode cX1_canWiden 46 = .ok (.goto 4, 3) := by decide +kernel
theorem dX1_canWiden_49 : decode cX1_canWiden 49 = .ok (.iconst 0, 1) := by decide +kernel
theorem dX1_canWiden_50 : decode cX1_canWiden 50 = .ok (.istore 9, 2) := by decide +kernel
theorem dX1_canWiden_52 : decode cX1_canWiden 52 = .ok (.iload 9, 2) := by decide +kernel
theorem dX1_canWiden_54 : decode cX1_canWiden 54 = .ok (.ifCond .eq 23, 3) := by decide +kernel
theorem dX1_canWiden_57 : decode cX1_canWiden 57 = .ok (.aload_n 0, 1) := by decide +kernel
theorem dX1_canWiden_58 : decode cX1_canWiden 58 = .ok (.lload_n 1, 1) := by decide +kernel
theorem dX1_canWiden_59 : decode cX1_canWiden 59 = .ok (.iload 8, 2) := by decide +kernel
theorem dX1_canWiden_61 : decode cX1_canWiden 61 = .ok (.invokevirtual 48, 3) := by decide +kernel
theorem dX1_canWiden_64 : decode cX1_canWiden 64 = .ok (.lload_n 3, 1) := by decide +kernel
theorem dX1_canWiden_65 : decode cX1_canWiden 65 = .ok (.ldc2_w 46, 3) := by decide +kernel
theorem dX1_canWiden_68 : decode cX1_canWiden 68 = .ok (.lxor, 1) := by decide +kernel
theorem dX1_canWiden_69 : decode cX1_canWiden 69 = .ok (.land, 1) := by decide +kernel
theorem dX1_canWiden_70 : decode cX1_canWiden 70 = .ok (.lconst 0, 1) := by decide +kernel
theorem dX1_canWiden_71 : decode cX1_canWiden 71 = .ok (.lcmp, 1) := by decide +kernel
theorem dX1_canWiden_72 : decode cX1_canWiden 72 = .ok (.ifCond .ne 5, 3) := by decide +kernel
theorem dX1_canWiden_75 : decode cX1_canWiden 75 = .ok (.iconst 1, 1) := by decide +kernel
theorem dX1_canWiden_76 : decode cX1_canWiden 76 = .ok (.ireturn, 1) := by decide +kernel
theorem dX1_canWiden_77 : decode cX1_canWiden 77 = .ok (.iinc 7 1, 3) := by decide +kernel
theorem dX1_canWiden_80 : decode cX1_canWiden 80 = .ok (.goto (-67), 3) := by decide +kernel
theorem dX1_canWiden_83 : decode cX1_canWiden 83 = .ok (.iconst 0, 1) := by decide +kernel
theorem dX1_canWiden_84 : decode cX1_canWiden 84 = .ok (.ireturn, 1) := by decide +kernel
set_option maxHeartbeats 4000000 in
set_option maxRecDepth 100000 in
theorem wX1_canWiden_L13 {n : Nat} {v1 : Int64} {v3 : Int64} {v6 : Int32} (hx : p.tables.exec = Jvm.exec) (hb : c.code = cX1_canWiden) (hml : c.maxLocals = 10) (hown : s.vm.findClass RX1 = some m.cls) (hts : ∀ w ∈ tw, w.before args s = true) (hK : va_K D vwCl [(cI, .int), (cJ, .long)] s) (hP : va_P D vwCl (wdF cI cJ oF oFr oFs oFc oFw fw fc fwh fbo fra fst fco fro) H) (hZ : stZ (fun _ => False) tS tA s s.heap) (hSz : va_S (fun _ => False) s.heap H locs) (hR : 1 ≤ R.frames ∧ 26 ≤ R.locals ∧ cells ≤ R.cells ∧ slots ≤ R.slots) : ∀ (k : Nat) (v7 : Int32) (x : (Unit) ⊕ (Unit)), mX1_canWiden_L13 n v6 v1 fst fra v3 k v7 = some x → ∀ ls : Array Slot, lv_has ls 10 [(0, .ref oF), (1, .long v1), (3, .long v3), (5, .ref tS), (6, .int v6), (7, .int v7)] → (x = .inl (()) → ∀ ls : Array Slot, lv_has ls 10 [] → W p l e R s m args below meth c H locs cells slots Q (F0 m 75 ls [])) → (x = .inr (()) → ∀ ls : Array Slot, lv_has ls 10 [] → W p l e R s m args below meth c H locs cells slots Q (F0 m 83 ls [])) → W p l e R s m args below meth c H locs cells slots Q (F0 m 13 ls []) := by
  intro k
  induction k with
  | zero => intro v7 x hm; rw [mX1_canWiden_L13] at hm; cases hm
  | succ k ih =>
    intro v7 x hm ls hl K0 K1
    rw [mX1_canWiden_L13] at hm
    refine lv_iload hx hb dX1_canWiden_13 (lv_at hl 5 rfl) ?_
    refine lv_iload hx hb dX1_canWiden_15 (lv_at hl 4 rfl) ?_
    refine lv_icmp_ge (tgt := 83) hx hb dX1_canWiden_17 (by decide) (fun c2 => ?_) (fun c2 => ?_)
    · rw [if_pos c2] at hm
      exact K1  (Option.some.inj hm).symm ls (lv_sub hl [] rfl)
    · rw [if_neg c2] at hm
      refine lv_aload hx hb dX1_canWiden_20 (lv_at hl 3 rfl) ?_
      refine lv_iload hx hb dX1_canWiden_22 (lv_at hl 5 rfl) ?_
      obtain ⟨g3, hm⟩ := gd_out hm
      refine va_ti (v := .int (side4 v7.toNatClampNeg)) hx hb hZ.2.1 hSz g3 rfl dX1_canWiden_24 ?_
      refine lv_istore (lv' := [(8, .int (side4 v7.toNatClampNeg)), (0, .ref oF), (1, .long v1), (3, .long v3), (5, .ref tS), (6, .int v6), (7, .int v7)]) hx hb dX1_canWiden_25 hl (by decide) rfl (fun ls hl => ?_)
      refine lv_lload_n hx hb dX1_canWiden_27 rfl (lv_at hl 2 rfl) ?_
      refine lv_aload_n hx hb dX1_canWiden_28 rfl (lv_at hl 1 rfl) ?_
      refine va_get (D := D) (ci := 1) (v := .ref oFs) (C := RX1) (T := TX1) (N := 8) hx hb hts tnX1 hown hK hP 0 rfl rfl 5 (by decide) (hts _ qw_21) (fun _ h9 => h9) rfl dX1_canWiden_29 ?_
      refine lv_iload hx hb dX1_canWiden_32 (lv_at hl 0 rfl) ?_
      obtain ⟨g4, hm⟩ := gd_out hm
      refine va_lald hx hb hK hP 2 1 rfl rfl g4 dX1_canWiden_34 ?_
      refine lv_ldc2 (v := (-1 : Int64)) hx hb hown (hts _ qw_34) dX1_canWiden_35 ?_
      refine lv_lxor hx hb dX1_canWiden_38 ?_
      refine lv_land hx hb dX1_canWiden_39 ?_
      refine lv_lconst (v := (0 : Int64)) hx hb dX1_canWiden_40 (by decide) ?_
      refine W.lcmp hx hb dX1_canWiden_41 ?_
      obtain ⟨j5, hi6, hm⟩ := jl_out hm
      have key7 : ∀ (ls : Array Slot), lv_has ls 10 [(8, .int (side4 v7.toNatClampNeg)), (0, .ref oF), (1, .long v1), (3, .long v3), (5, .ref tS), (6, .int v6), (7, .int v7)] → W p l e R s m args below meth c H locs cells slots Q (F0 m 50 ls [.int j5]) := by
        intro ls hl
        refine lv_istore (lv' := [(9, .int j5), (8, .int (side4 v7.toNatClampNeg)), (0, .ref oF), (1, .long v1), (3, .long v3), (5, .ref tS), (6, .int v6), (7, .int v7)]) hx hb dX1_canWiden_50 hl (by decide) rfl (fun ls hl => ?_)
        refine lv_iload hx hb dX1_canWiden_52 (lv_at hl 0 rfl) ?_
        refine lv_if_eq (tgt := 77) hx hb dX1_canWiden_54 (by decide) (fun c9 => ?_) (fun c9 => ?_)
        · rw [if_pos c9] at hm
          refine lv_iinc (v := (v7 + (1 : Int32))) (lv' := [(7, .int (v7 + (1 : Int32))), (9, .int j5), (8, .int (side4 v7.toNatClampNeg)), (0, .ref oF), (1, .long v1), (3, .long v3), (5, .ref tS), (6, .int v6)]) hx hb dX1_canWiden_77 hl (k := 7) rfl (by rfl) (by decide) rfl (fun ls hl => ?_)
          refine lv_goto (tgt := 13) hx hb dX1_canWiden_80 (by decide) ?_
          exact ih _ _ hm ls (lv_sub hl [3, 4, 5, 6, 7, 0] rfl) K0 K1
        · rw [if_neg c9] at hm
          refine lv_aload_n hx hb dX1_canWiden_57 rfl (lv_at hl 2 rfl) ?_
          refine lv_lload_n hx hb dX1_canWiden_58 rfl (lv_at hl 3 rfl) ?_
          refine lv_iload hx hb dX1_canWiden_59 (lv_at hl 1 rfl) ?_
          obtain ⟨r10, h11, hm⟩ := jb_out hm
          refine kX1_ahead ⟨hx, hb, hml, hown, hts⟩ qw_28 hP hK h11 hl.1 ⟨Nat.le_trans (by decide) hR.1, Nat.le_trans (by decide) hR.2.1, hR.2.2⟩ (Nat.le_of_ble_eq_true rfl) dX1_canWiden_61 ?_
          refine lv_lload_n hx hb dX1_canWiden_64 rfl (lv_at hl 4 rfl) ?_
          refine lv_ldc2 (v := (-1 : Int64)) hx hb hown (hts _ qw_34) dX1_canWiden_65 ?_
          refine lv_lxor hx hb dX1_canWiden_68 ?_
          refine lv_land hx hb dX1_canWiden_69 ?_
          refine lv_lconst (v := (0 : Int64)) hx hb dX1_canWiden_70 (by decide) ?_
          refine W.lcmp hx hb dX1_canWiden_71 ?_
          refine lv_if_ne (tgt := 77) hx hb dX1_canWiden_72 (by decide) (fun c12 => ?_) (fun c12 => ?_)
          · have c12 := fun h9 => c12 ((lg_cmp_eq (r10 &&& (v3 ^^^ (-1 : Int64))) (0 : Int64)).mpr h9)
            rw [if_neg c12] at hm
            refine lv_iinc (v := (v7 + (1 : Int32))) (lv' := [(7, .int (v7 + (1 : Int32))), (9, .int j5), (8, .int (side4 v7.toNatClampNeg)), (0, .ref oF), (1, .long v1), (3, .long v3), (5, .ref tS), (6, .int v6)]) hx hb dX1_canWiden_77 hl (k := 7) rfl (by rfl) (by decide) rfl (fun ls hl => ?_)
            refine lv_goto (tgt := 13) hx hb dX1_canWiden_80 (by decide) ?_
            exact ih _ _ hm ls (lv_sub hl [3, 4, 5, 6, 7, 0] rfl) K0 K1
          · have c12 := (lg_cmp_eq (r10 &&& (v3 ^^^ (-1 : Int64))) (0 : Int64)).mp c12
            rw [if_pos c12] at hm
            exact K0  (Option.some.inj hm).symm ls (lv_sub hl [] rfl)
      refine lv_if_ne (tgt := 49) hx hb dX1_canWiden_42 (by decide) (fun c8 => ?_) (fun c8 => ?_)
      · have c8 := fun h9 => c8 ((lg_cmp_eq (v1 &&& ((fst (side4 v7.toNatClampNeg).toNatClampNeg) ^^^ (-1 : Int64))) (0 : Int64)).mpr h9)
        rw [if_neg c8] at hi6
        refine lv_iconst (v := (0 : Int32)) hx hb dX1_canWiden_49 (by decide) ?_
        rw [hi6] at key7
        exact key7 ls (lv_sub hl [0, 1, 2, 3, 4, 5, 6] rfl)
      · have c8 := (lg_cmp_eq (v1 &&& ((fst (side4 v7.toNatClampNeg).toNatClampNeg) ^^^ (-1 : Int64))) (0 : Int64)).mp c8
        rw [if_pos c8] at hi6
        refine lv_iconst (v := (1 : Int32)) hx hb dX1_canWiden_45 (by decide) ?_
        refine lv_goto (tgt := 50) hx hb dX1_canWiden_46 (by decide) ?_
        rw [hi6] at key7
        exact key7 ls (lv_sub hl [0, 1, 2, 3, 4, 5, 6] rfl)
set_option maxHeartbeats 4000000 in
set_option maxRecDepth 100000 in
theorem bX1_canWiden {n : Nat} {a1 : Int64} {a3 : Int64} {r : Int32} (hx : p.tables.exec = Jvm.exec) (hb : c.code = cX1_canWiden) (hml : c.maxLocals = 10) (hown : s.vm.findClass RX1 = some m.cls) (hts : ∀ w ∈ tw, w.before args s = true) (hK : va_K D vwCl [(cI, .int), (cJ, .long)] s) (hP : va_P D vwCl (wdF cI cJ oF oFr oFs oFc oFw fw fc fwh fbo fra fst fco fro) H) (hZ : stZ (fun _ => False) tS tA s s.heap) (hSz : va_S (fun _ => False) s.heap H locs) (hR : 1 ≤ R.frames ∧ 26 ≤ R.locals ∧ cells ≤ R.cells ∧ slots ≤ R.slots) (hm : mX1_canWiden n fst fra a1 a3 = some r) (ls : Array Slot) (hl : lv_has ls 10 [(0, .ref oF), (1, .long a1), (3, .long a3)]) (K : ∀ (pc : Nat) (ls : Array Slot), decode cX1_canWiden pc = .ok (.ireturn, 1) → narrow .boolean (.int r) = .int r → W p l e R s m args below meth c H locs cells slots Q (F0 m pc ls [.int r])) : W p l e R s m args below meth c H locs cells slots Q (F0 m 0 ls []) := by
  unfold mX1_canWiden at hm
  refine va_gets hx hb hZ.1 hSz hown (hts _ qw_44) (fun _ h9 => h9) dX1_canWiden_0 ?_
  refine lv_astore (lv' := [(5, .ref tS), (0, .ref oF), (1, .long a1), (3, .long a3)]) hx hb dX1_canWiden_3 hl (by decide) rfl (fun ls hl => ?_)
  refine lv_aload hx hb dX1_canWiden_5 (lv_at hl 0 rfl) ?_
  refine va_tlen (v := (4 : Int32)) hx hb hZ.2.1 hSz rfl dX1_canWiden_7 ?_
  refine lv_istore (lv' := [(6, .int (4 : Int32)), (5, .ref tS), (0, .ref oF), (1, .long a1), (3, .long a3)]) hx hb dX1_canWiden_8 hl (by decide) rfl (fun ls hl => ?_)
  refine lv_iconst (v := (0 : Int32)) hx hb dX1_canWiden_10 (by decide) ?_
  refine lv_istore (lv' := [(7, .int (0 : Int32)), (6, .int (4 : Int32)), (5, .ref tS), (0, .ref oF), (1, .long a1), (3, .long a3)]) hx hb dX1_canWiden_11 hl (by decide) rfl (fun ls hl => ?_)
  obtain ⟨z14, h13, hm⟩ := jb_out hm
  refine wX1_canWiden_L13 hx hb hml hown hts hK hP hZ hSz hR n _ _ h13 ls (lv_sub hl [3, 4, 5, 2, 1, 0] rfl) ?_ ?_
  · intro e15 ls hl
    subst e15
    simp only [el2] at hm
    refine lv_iconst (v := (1 : Int32)) hx hb dX1_canWiden_75 (by decide) ?_
    have hm := Option.some.inj hm
    subst hm
    exact K 76 ls dX1_canWiden_76 rfl
  · intro e16 ls hl
    subst e16
    simp only [el2] at hm
    refine lv_iconst (v := (0 : Int32)) hx hb dX1_canWiden_83 (by decide) ?_
    have hm := Option.some.inj hm
    subst hm
    exact K 84 ls dX1_canWiden_84 rfl
set_option maxHeartbeats 4000000 in
set_option maxRecDepth 100000 in
theorem tX1_canWiden (l : Launch) {D : va_G} {n : Nat} {a1 : Int64} {a3 : Int64} {r : Int32} (hm : mX1_canWiden n fst fra a1 a3 = some r) : Met l yX1_canWiden (.code yX1_canWiden cX1_canWiden 10 (some .boolean) :: tw) ({ frames := 1, cells := 0, slots := 0, locals := 26 } : Room) (rdZ D [.ref oF, .long a1, .long a3] (wdF cI cJ oF oFr oFs oFc oFw fw fc fwh fbo fra fst fco fro) [(cI, .int), (cJ, .long)] tS tA) (vp_Si (fun q => q = r ∧ narrow .boolean (.int q) = .int q)) 0 0 (fun _ => False) := by
  refine Met.ofW (cc := cX1_canWiden) (maxL := 10) (ret := (some .boolean)) (by decide) rfl ?_
  intro p e s m args below meth c s₁ B hml hv
  obtain ⟨rfl, hP, hK, hZ⟩ := hv
  have hx := B.exec
  have hb := B.bytes
  have hr := B.returns
  have hts : ∀ w ∈ tw, w.before _ s = true := fun w h => atoms_spec (ws := .code yX1_canWiden cX1_canWiden 10 (some .boolean) :: tw) B.pre w (List.mem_cons_of_mem _ h)
  have hown : s.vm.findClass RX1 = some m.cls := findClass_of_methodNamed B.named
  have hlocks := B.notSynchronized
  have hl := lv_entry ([.ref oF, .long a1, .long a3]) (n := 10) (Nat.le_of_ble_eq_true rfl)
  rw [lg_entry_eq]
  generalize (lg_sl ([.ref oF, .long a1, .long a3]) ++ List.replicate (10 - (lg_sl ([.ref oF, .long a1, .long a3])).length) Slot.unset).toArray = ls at hl ⊢
  refine bX1_canWiden hx hb hml hown hts hK hP hZ va_S.rf ⟨Nat.le_of_ble_eq_true rfl, Nat.le_of_ble_eq_true rfl, Nat.zero_le _, Nat.zero_le _⟩ hm ls hl (fun pc ls hd hz => ?_)
  exact W.zret hx hb hr hz (fun t ht hW => ⟨r, rfl, ⟨rfl, hz⟩, ht⟩) (fun q h => by cases h) hd
set_option maxHeartbeats 4000000 in
set_option maxRecDepth 100000 in
theorem kX1_canWiden {own : String} {cc : ByteArray} {nL idx pc : Nat} {ls : Array Slot} {rest : List Value} {n : Nat} {a1 : Int64} {a3 : Int64} {r : Int32} (fx : CallFix p m c cc nL s args tw own) (hq : Cond.methodLink own idx yX1_canWiden ∈ tw) (hP : va_P D vwCl (wdF cI cJ oF oFr oFs oFc oFw fw fc fwh fbo fra fst fco fro) H) (hK : va_K D vwCl [(cI, .int), (cJ, .long)] s) (hz : stZ (fun _ => False) tS tA s H) (hm : mX1_canWiden n fst fra a1 a3 = some r) (hsz : ls.size = nL) (hR : 2 ≤ R.frames ∧ 55 ≤ R.locals ∧ cells ≤ R.cells ∧ slots ≤ R.slots) (hst : (rest.map fun v => v.category).sum ≤ 8) (hd : decode cc pc = .ok (.invokevirtual idx, 3)) (kk : W p l e R s m args below meth c H locs cells slots Q (F0 m (pc + 3) ls (.int r :: rest))) : W p l e R s m args below meth c H locs cells slots Q (F0 m pc ls (.long a3 :: .long a1 :: .ref oF :: rest)) := by
  exact vp_callSi (va_Run.run (va_runV (As := [.long a1, .long a3]) (rest := rest) fx (tX1_canWiden l hm) (cwV 2 fx.2.2.2.2 (tw_V hq qw_49 qw_50 qw_18 qw_51) rfl rfl rfl (by decide +kernel) ⟨hR.1, hR.2.1⟩) ⟨rdZ_bl, va_recv hK hP (ci := 1) (q0 := 0) rfl rfl, rdZ_ok hP hK hz⟩ rfl rfl hsz rfl (lv_room hst) hd ⟨hR.2.2.1, hR.2.2.2⟩)) (fun r9 hr9 => by first | (rw [hr9]; exact kk) | (rw [hr9.1]; exact kk))
end
