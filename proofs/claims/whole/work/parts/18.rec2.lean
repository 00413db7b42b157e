theorem qw_567 : Cond.fieldLink RX5 13 "WornShapes$Search" "length" "I" ∈ tw := tw_of (by decide +kernel) rfl
theorem qw_568 : Cond.fieldLink RX5 25 "WornShapes$Search" "ACTS" "[I" ∈ tw := tw_of (by decide +kernel) rfl
theorem qw_569 : Cond.fieldLink RX5 9 "WornShapes$Search" "way" "[I" ∈ tw := tw_of (by decide +kernel) rfl
theorem qw_570 : Cond.fieldLink RX5 17 "WornShapes$Search" "stamps" "LWornShapes$Stamps;" ∈ tw := tw_of (by decide +kernel) rfl
theorem qw_571 : Cond.methodLink RX5 28 yX6_made ∈ tw := tw_of (by decide +kernel) rfl
theorem qw_572 : Cond.methodLink RX5 21 yX5_leads ∈ tw := tw_of (by decide +kernel) rfl
theorem qw_573 : Cond.static yX5_leads ∈ tw := tw_of (by decide +kernel) rfl
theorem qw_574 : Cond.initialized RX5 ∈ tw := tw_of (by decide +kernel) rfl
theorem qw_575 : Cond.code yX5_leads cX5_leads 10 (some .boolean) ∈ tw := tw_of (by decide +kernel) rfl
theorem qw_576 : Cond.instanceMethod yX5_find ∈ tw := tw_of (by decide +kernel) rfl
theorem qw_577 : Cond.selects RX5 yX5_find yX5_find ∈ tw := tw_of (by decide +kernel) rfl
theorem qw_578 : Cond.code yX5_find cX5_find 6 (some .boolean) ∈ tw := tw_of (by decide +kernel) rfl
theorem qw_579 : Cond.fieldLink RX7 43 "WornShapes" "search" "LWornShapes$Search;" ∈ tw := tw_of (by decide +kernel) rfl
theorem qw_580 : Cond.methodLink RX7 149 yX5_find ∈ tw := tw_of (by decide +kernel) rfl
theorem qw_581 : Cond.fieldLink RX7 153 "WornShapes$Search" "length" "I" ∈ tw := tw_of (by decide +kernel) rfl
theorem qw_582 : Cond.instanceMethod yX7_shortest ∈ tw := tw_of (by decide +kernel) rfl
theorem qw_583 : Cond.selects RX7 yX7_shortest yX7_shortest ∈ tw := tw_of (by decide +kernel) rfl
theorem qw_584 : Cond.code yX7_shortest cX7_shortest 3 (some .int) ∈ tw := tw_of (by decide +kernel) rfl
theorem qw_585 : Cond.fieldLink RX7 156 "WornShapes$Search" "way" "[I" ∈ tw := tw_of (by decide +kernel) rfl
theorem qw_586 : Cond.instanceMethod yX7_step ∈ tw := tw_of (by decide +kernel) rfl
theorem qw_587 : Cond.selects RX7 yX7_step yX7_step ∈ tw := tw_of (by decide +kernel) rfl
theorem qw_588 : Cond.code yX7_step cX7_step 4 (some .int) ∈ tw := tw_of (by decide +kernel) rfl
section
variable {A : Nat → Prop} {p : Program} {l : Launch} {e : Env} {R : Room} {s : State} {m : MethodId} {args : Array Value} {below : List Frame} {meth : Method} {c : Code} {H : Heap} {locs : List Loc} {cells slots : Nat} {Q : State → Prop} {D : va_G} {oF : Nat} {oFr : Nat} {oFs : Nat} {oFc : Nat} {oFw : Nat} {oS : Nat} {oSs : Nat} {oG : Nat} {oGa : Nat} {oQ : Nat} {oQw : Nat} {oI : Nat} {oR : Nat} {oRh : Nat} {oRm : Nat} {oB : Nat} {oBw : Nat} {oX : Nat} {oXp : Nat} {oXg : Nat} {oG0 : Nat} {oGa0 : Nat} {oG1 : Nat} {oGa1 : Nat} {oG2 : Nat} {oGa2 : Nat} {oM : Nat} {oM1 : Nat} {oM2 : Nat} {oM3 : Nat} {oM4 : Nat} {oM5 : Nat} {oM6 : Nat} {oM7 : Nat} {oM8 : Nat} {oM9 : Nat} {oM10 : Nat} {oM11 : Nat} {tS : Nat} {tA : Nat} {cI : ClassId} {cJ : ClassId} {cG : ClassId} {fw : Int32} {fc : Int32} {fwh : Int64} {fbo : Int64} {fra : Nat → Int32} {fco : Nat → Int32} {fro : Nat → Int32} {fst : Nat → Int64} {srim : Int32} {sst : Nat → Int32} {gsz : Int32} {gac : Nat → Int32} {qln : Int32} {qwy : Nat → Int32} {ijn : Int32} {rsz : Int32} {rhi : Nat → Int32} {rmi : Nat → Int32} {bsz : Int32} {bfi : Int32} {bla : Int32} {bar : Int32} {bwi : Nat → Int64} {xpi : Nat → Int64} {gs0 : Int32} {gs1 : Int32} {gs2 : Int32} {ga0 : Nat → Int32} {ga1 : Nat → Int32} {ga2 : Nat → Int32} {mw : Int32} {mt : Int32} {mrim : Int32} {mjn : Int32} {mhm : Int32} {mpn : Int32} {mbm : Int32} {mgm : Int32} {mpi : Nat → Int64} {mbe : Nat → Int64} {mgr : Nat → Int64} {mle : Nat → Int64} {mst : Nat → Int32} {mam : Nat → Int32} {mac : Nat → Int32} {mro : Nat → Int32} {mhi : Nat → Int32} {mmi : Nat → Int32} {mtr : Nat → Int32}
-- X5_leads
def mX5_leads_L40 (n : Nat) (v7 : Int32) (v5 : Int32) (fra : Nat → Int32) (fst : Nat → Int64) (sst : Nat → Int32) (fwh : Int64) (srim : Int32) (v1 : Int64) (rc : (Nat → Int32) → Int64 → Int64 → Int32 → Option (Int32 × (Nat → Int32))) (v3 : Int64) : Nat → (Int32) → (Nat → Int32) → Option (((Nat → Int32)) ⊕ ((Nat → Int32)))
  | 0, _, _ => none
  | k + 1, v8, qwy => (if v7 ≤ v8 then some (.inr (qwy)) else gd (ib v8 9) (gd (ib v5 4) (jb (mX6_made n fra fst sst fwh srim v1 (acts9 v8.toNatClampNeg)) (fun (r8 : Int64) => jb2 (rc (upd qwy v5.toNatClampNeg (acts9 v8.toNatClampNeg)) r8 v3 (v5 + (1 : Int32))) (fun (r11 : Int32) (y12 : Nat → Int32) => (if r11 = 0 then mX5_leads_L40 n v7 v5 fra fst sst fwh srim v1 rc v3 k (v8 + (1 : Int32)) y12 else some (.inl (y12))))))))
def mX5_leads_b (rc : (Nat → Int32) → Int64 → Int64 → Int32 → Option (Int32 × (Nat → Int32))) (n : Nat) (qln : Int32) (fra : Nat → Int32) (fst : Nat → Int64) (sst : Nat → Int32) (fwh : Int64) (srim : Int32) (qwy : Nat → Int32) (a1 : Int64) (a3 : Int64) (a5 : Int32) : Option (Int32 × (Nat → Int32)) :=
  (if qln ≤ a5 then (if a1 = a3 then (some ((1 : Int32), qwy)) else (some ((0 : Int32), qwy))) else (if a5 < (4 : Int32) then jb (mX5_leads_L40 n (9 : Int32) a5 fra fst sst fwh srim a1 rc a3 n (0 : Int32) qwy) (fun q => el2 q (fun (y14 : Nat → Int32) => (some ((1 : Int32), y14))) (fun (y15 : Nat → Int32) => (some ((0 : Int32), y15)))) else (if a1 = a3 then (some ((1 : Int32), qwy)) else (some ((0 : Int32), qwy)))))
def mX5_leads (n : Nat) (qln : Int32) (fra : Nat → Int32) (fst : Nat → Int64) (sst : Nat → Int32) (fwh : Int64) (srim : Int32) : Nat → (Nat → Int32) → Int64 → Int64 → Int32 → Option (Int32 × (Nat → Int32))
  | 0, _, _, _, _ => none
  | d + 1, qwy, a1, a3, a5 => mX5_leads_b (mX5_leads n qln fra fst sst fwh srim d) n qln fra fst sst fwh srim qwy a1 a3 a5
theorem dX5_leads_0 : decode cX5_leads 0 = .ok (.iload 5, 2) := by decide +kernel
theorem dX5_leads_2 : decode cX5_leads 2 = .ok (.aload_n 0, 1) := by decide +kernel
theorem dX5_leads_3 : decode cX5_leads 3 = .ok (.getfield 13, 3) := by decide +kernel
theorem dX5_leads_6 : decode cX5_leads 6 = .ok (.if_icmp .ge 9, 3) := by decide +kernel
theorem dX5_leads_9 : decode cX5_leads 9 = .ok (.iload 5, 2) := by decide +kernel
theorem dX5_leads_11 : decode cX5_leads 11 = .ok (.iconst 4, 1) := by decide +kernel
theorem dX5_leads_12 : decode cX5_leads 12 = .ok (.if_icmp .lt 15, 3) := by decide +kernel
theorem dX5_leads_15 : decode cX5_leads 15 = .ok (.lload_n 1, 1) := by decide +kernel
theorem dX5_leads_16 : decode cX5_leads 16 = .ok (.lload_n 3, 1) := by decide +kernel
theorem dX5_leads_17 : decode cX5_leads 17 = .ok (.lcmp, 1) := by decide +kernel
theorem dX5_leads_18 : decode cX5_leads 18 = .ok (.ifCond .ne 7, 3) := by decide +kernel
theorem dX5_leads_21 : decode cX5_leads 21 = .ok (.iconst 1, 1) := by decide +kernel
theorem dX5_leads_22 : decode cX5_leads 22 = .ok (.goto 4, 3) := by decide +kernel
theorem dX5_leads_25 : decode cX5_leads 25 = .ok (.iconst 0, 1) := by decide +kernel
theorem dX5_leads_26 : decode cX5_leads 26 = .ok (.ireturn, 1) := by decide +kernel
theorem dX5_leads_27 : decode cX5_leads 27 = .ok (.getstatic 25, 3) := by decide +kernel
theorem dX5_leads_30 : decode cX5_leads 30 = .ok (.astore 6, 2) := by decide +kernel
theorem dX5_leads_32 : decode cX5_leads 32 = .ok (.aload 6, 2) := by decide +kernel
theorem dX5_leads_34 : decode cX5_leads 34 = .ok (.arraylength, 1) := by decide +kernel
theorem dX5_leads_35 : decode cX5_leads 35 = .ok (.istore 7, 2) := by decide +kernel
theorem dX5_leads_37 : decode cX5_leads 37 = .ok (.iconst 0, 1) := by decide +kernel
theorem dX5_leads_38 : decode cX5_leads 38 = .ok (.istore 8, 2) := by decide +kernel
theorem dX5_leads_40 : decode cX5_leads 40 = .ok (.iload 8, 2) := by decide +kernel
theorem dX5_leads_42 : decode cX5_leads 42 = .ok (.iload 7, 2) := by decide +kernel
theorem dX5_leads_44 : decode cX5_leads 44 = .ok (.if_icmp .ge 49, 3) := by decide +kernel
theorem dX5_leads_47 : decode cX5_leads 47 = .ok (.aload 6, 2) := by decide +kernel
theorem dX5_leads_49 : decode cX5_leads 49 = .ok (.iload 8, 2) := by decide +kernel
theorem dX5_leads_51 : decode cX5_leads 51 = .ok (.iaload, 1) := by decide +kernel
theorem dX5_leads_52 : decode cX5_leads 52 = .ok (.istore 9, 2) := by decide +kernel
theorem dX5_leads_54 : decode cX5_leads 54 = .ok (.aload_n 0, 1) := by decide +kernel
theorem dX5_leads_55 : decode cX5_leads 55 = .ok (.getfield 9, 3) := by decide +kernel
theorem dX5_leads_58 : decode cX5_leads 58 = .ok (.iload 5, 2) := by decide +kernel
theorem dX5_leads_60 : decode cX5_leads 60 = .ok (.iload 9, 2) := by decide +kernel
theorem dX5_leads_62 : decode cX5_leads 62 = .ok (.iastore, 1) := by decide +kernel
theorem dX5_leads_63 : decode cX5_leads 63 = .ok (.aload_n 0, 1) := by decide +kernel
theorem dX5_leads_64 : decode cX5_leads 64 = .ok (.aload_n 0, 1) := by decide +kernel
theorem dX5_leads_65 : decode cX5_leads 65 = .ok (.getfield 17, 3) := by decide +kernel
theorem dX5_leads_68 : decode cX5_leads 68 = .ok (.lload_n 1, 1) := by decide +kernel
theorem dX5_leads_69 : decode cX5_leads 69 = .ok (.iload 9, 2) := by decide +kernel
theorem dX5_leads_71 : decode cX5_leads 71 = .ok (.invokevirtual 28, 3) := by decide +kernel
theorem dX5_leads_74 : decode cX5_leads 74 = .ok (.lload_n 3, 1) := by decide +kernel
theorem dX5_leads_75 : decode cX5_leads 75 = .ok (.iload 5, 2) := by decide +kernel
theorem dX5_leads_77 : decode cX5_leads 77 = .ok (.iconst 1, 1) := by decide +kernel
theorem dX5_leads_78 : decode cX5_leads 78 = .ok (.iadd, 1) := by decide +kernel
theorem dX5_leads_79 : decode cX5_leads 79 = .ok (.invokestatic 21, 3) := by decide +kernel
theorem dX5_leads_82 : decode cX5_leads 82 = .ok (.ifCond .eq 5, 3) := by decide +kernel
theorem dX5_leads_85 : decode cX5_leads 85 = .ok (.iconst 1, 1) := by decide +kernel
theorem dX5_leads_86 : decode cX5_leads 86 = .ok (.ireturn, 1) := by decide +kernel
theorem dX5_leads_87 : decode cX5_leads 87 = .ok (.iinc 8 1, 3) := by decide +kernel
theorem dX5_leads_90 : decode cX5_leads 90 = .ok (.goto (-50), 3) := by decide +kernel
theorem dX5_leads_93 : decode cX5_leads 93 = .ok (.iconst 0, 1) := by decide +kernel
theorem dX5_leads_94 : decode cX5_leads 94 = .ok (.ireturn, 1) := by decide +kernel
set_option maxHeartbeats 4000000 in
set_option maxRecDepth 100000 in
theorem kX5_leads_i {own : String} {cc : ByteArray} {nL idx pc : Nat} {ls : Array Slot} {rest : List Value} {fr lo : Nat} {a1 : Int64} {a3 : Int64} {a5 : Int32} {r : Int32} {y_qwy : Nat → Int32} (hM : Met l yX5_leads (.code yX5_leads cX5_leads 10 (some .boolean) :: tw) ({ frames := fr, cells := 0, slots := 0, locals := lo } : Room) (wrZ D [.ref oQ, .long a1, .long a3, .int a5] (wdQ cI cJ oQ oQw oS oSs oF oFr oFs oFc oFw qln qwy srim sst fw fc fwh fbo fra fst fco fro) [(cI, .int), (cJ, .long)] tS tA H.size) (va_Qi (fun q (_ : Unit) => q = r ∧ narrow .boolean (.int q) = .int q) (fun (_ : Unit) (t : State) => va_P D vwCl (wdQ cI cJ oQ oQw oS oSs oF oFr oFs oFc oFw qln y_qwy srim sst fw fc fwh fbo fra fst fco fro) t.heap ∧ va_K D vwCl [(cI, .int), (cJ, .long)] t ∧ va_D (va_A (wdQ cI cJ oQ oQw oS oSs oF oFr oFs oFc oFw qln qwy srim sst fw fc fwh fbo fra fst fco fro) H.size) (wdQ cI cJ oQ oQw oS oSs oF oFr oFs oFc oFw qln y_qwy srim sst fw fc fwh fbo fra fst fco fro)) (va_A (wdQ cI cJ oQ oQw oS oSs oF oFr oFs oFc oFw qln qwy srim sst fw fc fwh fbo fra fst fco fro) H.size)) 0 0 (va_A (wdQ cI cJ oQ oQw oS oSs oF oFr oFs oFc oFw qln qwy srim sst fw fc fwh fbo fra fst fco fro) H.size)) (fx : CallFix p m c cc nL s args tw own) (hq : Cond.methodLink own idx yX5_leads ∈ tw) (hK : va_K D vwCl [(cI, .int), (cJ, .long)] s) (hZ : stZ A tS tA s s.heap) (hsz : ls.size = nL) (hR : fr + 1 ≤ R.frames ∧ 8 + (10 + 11) + lo ≤ R.locals ∧ cells ≤ R.cells ∧ slots ≤ R.slots) (hst : (rest.map fun v => v.category).sum ≤ 8) (hd : decode cc pc = .ok (.invokestatic idx, 3)) (hP : va_P D vwCl (wdQ cI cJ oQ oQw oS oSs oF oFr oFs oFc oFw qln qwy srim sst fw fc fwh fbo fra fst fco fro) H) (hD : va_D A (wdQ cI cJ oQ oQw oS oSs oF oFr oFs oFc oFw qln qwy srim sst fw fc fwh fbo fra fst fco fro)) (hS : va_S A s.heap H locs) (hA : ∀ q, s.heap.size ≤ q → A q) (kk : ∀ (H : Heap) (locs : List Loc), va_P D vwCl (wdQ cI cJ oQ oQw oS oSs oF oFr oFs oFc oFw qln y_qwy srim sst fw fc fwh fbo fra fst fco fro) H → va_D A (wdQ cI cJ oQ oQw oS oSs oF oFr oFs oFc oFw qln y_qwy srim sst fw fc fwh fbo fra fst fco fro) → va_S A s.heap H locs → W p l e R s m args below meth c H locs cells slots Q (F0 m (pc + 3) ls (.int r :: rest))) : W p l e R s m args below meth c H locs cells slots Q (F0 m pc ls (.int a5 :: .long a3 :: .long a1 :: .ref oQ :: rest)) := by
  have hFc := va_free (wc := (wdQ cI cJ oQ oQw oS oSs oF oFr oFs oFc oFw qln qwy srim sst fw fc fwh fbo fra fst fco fro)) hD hS hA [0, 1, 2, 3, 4, 5, 6, 7, 8] rfl
  refine va_calli (va_runS (As := [.ref oQ, .long a1, .long a3, .int a5]) (rest := rest) fx hM (va_cwS 4 fx.2.2.2.2 (tw_S2 hq qw_573 qw_574 qw_575) rfl rfl rfl (by decide +kernel) ⟨hR.1, hR.2.1⟩) ⟨wrZ_bl, wrZ_ok hP hK hD (stZ_in hZ hS hFc)⟩ rfl rfl hsz rfl (lv_room hst) hd ⟨hR.2.2.1, hR.2.2.2⟩) hS (fun q _ h => hFc q h) hFc (fun r9 u t H1 locs ht hvm hw hB hz1 hk1 hS => ?_)
  obtain ⟨hP1, hK1, hD1⟩ := hB
  rw [ht] at hP1
  rw [hw.1]
  obtain ⟨hP2, hD2⟩ := va_join (wr := []) (w1 := (wdQ cI cJ oQ oQw oS oSs oF oFr oFs oFc oFw qln y_qwy srim sst fw fc fwh fbo fra fst fco fro)) hP hD [0, 1, 2, 3, 4, 5, 6, 7, 8] [] rfl rfl (by decide) (by decide) hk1 hFc hP1 hD1
  exact kk H1 locs hP2 hD2 hS
set_option maxHeartbeats 4000000 in
set_option maxRecDepth 100000 in
theorem wX5_leads_L40 {n : Nat} {rc : (Nat → Int32) → Int64 → Int64 → Int32 → Option (Int32 × (Nat → Int32))} {fr lo : Nat}  {v1 : Int64} {v3 : Int64} {v5 : Int32} {v7 : Int32} (hx : p.tables.exec = Jvm.exec) (hb : c.code = cX5_leads) (hml : c.maxLocals = 10) (hown : s.vm.findClass RX5 = some m.cls) (hts : ∀ w ∈ tw, w.before args s = true) (hK : va_K D vwCl [(cI, .int), (cJ, .long)] s) (hA : ∀ q, s.heap.size ≤ q → A q) (hZ : stZ A tS tA s s.heap) (IH : ∀ (sz : Nat) (z_qwy : Nat → Int32) (b1 : Int64) (b3 : Int64) (b5 : Int32) (r : Int32) (y_qwy : Nat → Int32), rc z_qwy b1 b3 b5 = some (r, y_qwy) → Met l yX5_leads (.code yX5_leads cX5_leads 10 (some .boolean) :: tw) ({ frames := fr, cells := 0, slots := 0, locals := lo } : Room) (wrZ D [.ref oQ, .long b1, .long b3, .int b5] (wdQ cI cJ oQ oQw oS oSs oF oFr oFs oFc oFw qln z_qwy srim sst fw fc fwh fbo fra fst fco fro) [(cI, .int), (cJ, .long)] tS tA sz) (va_Qi (fun q (_ : Unit) => q = r ∧ narrow .boolean (.int q) = .int q) (fun (_ : Unit) (t : State) => va_P D vwCl (wdQ cI cJ oQ oQw oS oSs oF oFr oFs oFc oFw qln y_qwy srim sst fw fc fwh fbo fra fst fco fro) t.heap ∧ va_K D vwCl [(cI, .int), (cJ, .long)] t ∧ va_D (va_A (wdQ cI cJ oQ oQw oS oSs oF oFr oFs oFc oFw qln z_qwy srim sst fw fc fwh fbo fra fst fco fro) sz) (wdQ cI cJ oQ oQw oS oSs oF oFr oFs oFc oFw qln y_qwy srim sst fw fc fwh fbo fra fst fco fro)) (va_A (wdQ cI cJ oQ oQw oS oSs oF oFr oFs oFc oFw qln z_qwy srim sst fw fc fwh fbo fra fst fco fro) sz)) 0 0 (va_A (wdQ cI cJ oQ oQw oS oSs oF oFr oFs oFc oFw qln z_qwy srim sst fw fc fwh fbo fra fst fco fro) sz)) (hRr : fr + 1 ≤ R.frames ∧ 8 + (10 + 11) + lo ≤ R.locals) (hR : 4 ≤ R.frames ∧ 99 ≤ R.locals ∧ cells ≤ R.cells ∧ slots ≤ R.slots) : ∀ (k : Nat) (v8 : Int32) (qwy : Nat → Int32) (x : ((Nat → Int32)) ⊕ ((Nat → Int32))), mX5_leads_L40 n v7 v5 fra fst sst fwh srim v1 rc v3 k v8 qwy = some x → ∀ ls : Array Slot, lv_has ls 10 [(0, .ref oQ), (1, .long v1), (3, .long v3), (5, .int v5), (6, .ref tA), (7, .int v7), (8, .int v8)] → ∀ (H : Heap) (locs : List Loc), va_P D vwCl (wdQ cI cJ oQ oQw oS oSs oF oFr oFs oFc oFw qln qwy srim sst fw fc fwh fbo fra fst fco fro) H → va_D A (wdQ cI cJ oQ oQw oS oSs oF oFr oFs oFc oFw qln qwy srim sst fw fc fwh fbo fra fst fco fro) → va_S A s.heap H locs → (∀ (x_qwy : Nat → Int32), x = .inl (x_qwy) → ∀ ls : Array Slot, lv_has ls 10 [] → ∀ (H : Heap) (locs : List Loc), va_P D vwCl (wdQ cI cJ oQ oQw oS oSs oF oFr oFs oFc oFw qln x_qwy srim sst fw fc fwh fbo fra fst fco fro) H → va_D A (wdQ cI cJ oQ oQw oS oSs oF oFr oFs oFc oFw qln x_qwy srim sst fw fc fwh fbo fra fst fco fro) → va_S A s.heap H locs → W p l e R s m args below meth c H locs cells slots Q (F0 m 85 ls [])) → (∀ (x_qwy : Nat → Int32), x = .inr (x_qwy) → ∀ ls : Array Slot, lv_has ls 10 [] → ∀ (H : Heap) (locs : List Loc), va_P D vwCl (wdQ cI cJ oQ oQw oS oSs oF oFr oFs oFc oFw qln x_qwy srim sst fw fc fwh fbo fra fst fco fro) H → va_D A (wdQ cI cJ oQ oQw oS oSs oF oFr oFs oFc oFw qln x_qwy srim sst fw fc fwh fbo fra fst fco fro) → va_S A s.heap H locs → W p l e R s m args below meth c H locs cells slots Q (F0 m 93 ls [])) → W p l e R s m args below meth c H locs cells slots Q (F0 m 40 ls []) := by
  intro k
  induction k with
  | zero => intro v8 qwy x hm; rw [mX5_leads_L40] at hm; cases hm
  | succ k ih =>
    intro v8 qwy x hm ls hl H locs hP hD hS K0 K1
    rw [mX5_leads_L40] at hm
    refine lv_iload hx hb dX5_leads_40 (lv_at hl 6 rfl) ?_
    refine lv_iload hx hb dX5_leads_42 (lv_at hl 5 rfl) ?_
    refine lv_icmp_ge (tgt := 93) hx hb dX5_leads_44 (by decide) (fun c5 => ?_) (fun c5 => ?_)
    · rw [if_pos c5] at hm
      exact K1 _ (Option.some.inj hm).symm ls (lv_sub hl [] rfl) _ _ hP hD hS
    · rw [if_neg c5] at hm
      refine lv_aload hx hb dX5_leads_47 (lv_at hl 4 rfl) ?_
      refine lv_iload hx hb dX5_leads_49 (lv_at hl 6 rfl) ?_
      obtain ⟨g6, hm⟩ := gd_out hm
      refine va_ti (v := .int (acts9 v8.toNatClampNeg)) hx hb hZ.2.2.2 hS g6 rfl dX5_leads_51 ?_
      refine lv_istore (lv' := [(9, .int (acts9 v8.toNatClampNeg)), (0, .ref oQ), (1, .long v1), (3, .long v3), (5, .int v5), (6, .ref tA), (7, .int v7), (8, .int v8)]) hx hb dX5_leads_52 hl (by decide) rfl (fun ls hl => ?_)
      refine lv_aload_n hx hb dX5_leads_54 rfl (lv_at hl 1 rfl) ?_
      refine va_get (D := D) (ci := 5) (v := .ref oQw) (C := RX5) (T := TX5) (N := 3) hx hb hts tnX5 hown hK hP 0 rfl rfl 1 (by decide) (hts _ qw_569) (fun _ h9 => h9) rfl dX5_leads_55 ?_
      refine lv_iload hx hb dX5_leads_58 (lv_at hl 4 rfl) ?_
      refine lv_iload hx hb dX5_leads_60 (lv_at hl 0 rfl) ?_
      obtain ⟨g7, hm⟩ := gd_out hm
      refine va_iast hx hb hK hP hD hS 1 0 rfl rfl g7 dX5_leads_62 (fun H locs hP hD hS => ?_)
      have hP : va_P D vwCl (wdQ cI cJ oQ oQw oS oSs oF oFr oFs oFc oFw qln (upd qwy v5.toNatClampNeg (acts9 v8.toNatClampNeg)) srim sst fw fc fwh fbo fra fst fco fro) H := hP
      have hD : va_D A (wdQ cI cJ oQ oQw oS oSs oF oFr oFs oFc oFw qln (upd qwy v5.toNatClampNeg (acts9 v8.toNatClampNeg)) srim sst fw fc fwh fbo fra fst fco fro) := hD
      refine lv_aload_n hx hb dX5_leads_63 rfl (lv_at hl 1 rfl) ?_
      refine lv_aload_n hx hb dX5_leads_64 rfl (lv_at hl 1 rfl) ?_
      refine va_get (D := D) (ci := 5) (v := .ref oS) (C := RX5) (T := TX5) (N := 3) hx hb hts tnX5 hown hK hP 0 rfl rfl 0 (by decide) (hts _ qw_570) (fun _ h9 => h9) rfl dX5_leads_65 ?_
      refine lv_lload_n hx hb dX5_leads_68 rfl (lv_at hl 2 rfl) ?_
      refine lv_iload hx hb dX5_leads_69 (lv_at hl 0 rfl) ?_
      obtain ⟨r8, h9, hm⟩ := jb_out hm
      refine kX6_made ⟨hx, hb, hml, hown, hts⟩ qw_571 (hP.sub (ws' := (wdS cI cJ oS oSs oF oFr oFs oFc oFw srim sst fw fc fwh fbo fra fst fco fro)) [2, 3, 4, 5, 6, 7, 8] rfl) hK h9 hl.1 ⟨Nat.le_trans (by decide) hR.1, Nat.le_trans (by decide) hR.2.1, hR.2.2⟩ (Nat.le_of_ble_eq_true rfl) dX5_leads_71 ?_
      refine lv_lload_n hx hb dX5_leads_74 rfl (lv_at hl 3 rfl) ?_
      refine lv_iload hx hb dX5_leads_75 (lv_at hl 4 rfl) ?_
      refine lv_iconst (v := (1 : Int32)) hx hb dX5_leads_77 (by decide) ?_
      refine lv_iadd hx hb dX5_leads_78 ?_
      obtain ⟨r11, y12, h10, hm⟩ := jb_out2 hm
      refine kX5_leads_i (IH H.size _ _ _ _ _ _ h10) ⟨hx, hb, hml, hown, hts⟩ qw_572 hK hZ hl.1 ⟨hRr.1, hRr.2, hR.2.2⟩ (Nat.le_of_ble_eq_true rfl) dX5_leads_79 hP hD hS hA (fun H locs hP hD hS => ?_)
      refine lv_if_eq (tgt := 87) hx hb dX5_leads_82 (by decide) (fun c13 => ?_) (fun c13 => ?_)
      · rw [if_pos c13] at hm
        refine lv_iinc (v := (v8 + (1 : Int32))) (lv' := [(8, .int (v8 + (1 : Int32))), (9, .int (acts9 v8.toNatClampNeg)), (0, .ref oQ), (1, .long v1), (3, .long v3), (5, .int v5), (6, .ref tA), (7, .int v7)]) hx hb dX5_leads_87 hl (k := 7) rfl (by rfl) (by decide) rfl (fun ls hl => ?_)
        refine lv_goto (tgt := 40) hx hb dX5_leads_90 (by decide) ?_
        exact ih _ _ _ hm ls (lv_sub hl [2, 3, 4, 5, 6, 7, 0] rfl) _ _ hP hD hS K0 K1
      · rw [if_neg c13] at hm
        exact K0 _ (Option.some.inj hm).symm ls (lv_sub hl [] rfl) _ _ hP hD hS
set_option maxHeartbeats 4000000 in
set_option maxRecDepth 100000 in
theorem bX5_leads {n : Nat} {rc : (Nat → Int32) → Int64 → Int64 → Int32 → Option (Int32 × (Nat → Int32))} {fr lo : Nat} {a1 : Int64} {a3 : Int64} {a5 : Int32} {r : Int32} {y_qwy : Nat → Int32} (hx : p.tables.exec = Jvm.exec) (hb : c.code = cX5_leads) (hml : c.maxLocals = 10) (hown : s.vm.findClass RX5 = some m.cls) (hts : ∀ w ∈ tw, w.before args s = true) (hK : va_K D vwCl [(cI, .int), (cJ, .long)] s) (hA : ∀ q, s.heap.size ≤ q → A q) (hZ : stZ A tS tA s s.heap) (IH : ∀ (sz : Nat) (z_qwy : Nat → Int32) (b1 : Int64) (b3 : Int64) (b5 : Int32) (r : Int32) (y_qwy : Nat → Int32), rc z_qwy b1 b3 b5 = some (r, y_qwy) → Met l yX5_leads (.code yX5_leads cX5_leads 10 (some .boolean) :: tw) ({ frames := fr, cells := 0, slots := 0, locals := lo } : Room) (wrZ D [.ref oQ, .long b1, .long b3, .int b5] (wdQ cI cJ oQ oQw oS oSs oF oFr oFs oFc oFw qln z_qwy srim sst fw fc fwh fbo fra fst fco fro) [(cI, .int), (cJ, .long)] tS tA sz) (va_Qi (fun q (_ : Unit) => q = r ∧ narrow .boolean (.int q) = .int q) (fun (_ : Unit) (t : State) => va_P D vwCl (wdQ cI cJ oQ oQw oS oSs oF oFr oFs oFc oFw qln y_qwy srim sst fw fc fwh fbo fra fst fco fro) t.heap ∧ va_K D vwCl [(cI, .int), (cJ, .long)] t ∧ va_D (va_A (wdQ cI cJ oQ oQw oS oSs oF oFr oFs oFc oFw qln z_qwy srim sst fw fc fwh fbo fra fst fco fro) sz) (wdQ cI cJ oQ oQw oS oSs oF oFr oFs oFc oFw qln y_qwy srim sst fw fc fwh fbo fra fst fco fro)) (va_A (wdQ cI cJ oQ oQw oS oSs oF oFr oFs oFc oFw qln z_qwy srim sst fw fc fwh fbo fra fst fco fro) sz)) 0 0 (va_A (wdQ cI cJ oQ oQw oS oSs oF oFr oFs oFc oFw qln z_qwy srim sst fw fc fwh fbo fra fst fco fro) sz)) (hRr : fr + 1 ≤ R.frames ∧ 8 + (10 + 11) + lo ≤ R.locals) (hR : 4 ≤ R.frames ∧ 99 ≤ R.locals ∧ cells ≤ R.cells ∧ slots ≤ R.slots) (hm : mX5_leads_b rc n qln fra fst sst fwh srim qwy a1 a3 a5 = some (r, y_qwy)) (ls : Array Slot) (hl : lv_has ls 10 [(0, .ref oQ), (1, .long a1), (3, .long a3), (5, .int a5)]) (hP : va_P D vwCl (wdQ cI cJ oQ oQw oS oSs oF oFr oFs oFc oFw qln qwy srim sst fw fc fwh fbo fra fst fco fro) H) (hD : va_D A (wdQ cI cJ oQ oQw oS oSs oF oFr oFs oFc oFw qln qwy srim sst fw fc fwh fbo fra fst fco fro)) (hS : va_S A s.heap H locs) (K : ∀ (pc : Nat) (ls : Array Slot) (H : Heap) (locs : List Loc), decode cX5_leads pc = .ok (.ireturn, 1) → narrow .boolean (.int r) = .int r → va_P D vwCl (wdQ cI cJ oQ oQw oS oSs oF oFr oFs oFc oFw qln y_qwy srim sst fw fc fwh fbo fra fst fco fro) H → va_D A (wdQ cI cJ oQ oQw oS oSs oF oFr oFs oFc oFw qln y_qwy srim sst fw fc fwh fbo fra fst fco fro) → va_S A s.heap H locs → W p l e R s m args below meth c H locs cells slots Q (F0 m pc ls [.int r])) : W p l e R s m args below meth c H locs cells slots Q (F0 m 0 ls []) := by
  unfold mX5_leads_b at hm
  refine lv_iload hx hb dX5_leads_0 (lv_at hl 3 rfl) ?_
  refine lv_aload_n hx hb dX5_leads_2 rfl (lv_at hl 0 rfl) ?_
  refine va_get (D := D) (ci := 5) (v := .int qln) (C := RX5) (T := TX5) (N := 3) hx hb hts tnX5 hown hK hP 0 rfl rfl 2 (by decide) (hts _ qw_567) (fun _ h9 => h9) rfl dX5_leads_3 ?_
  refine lv_icmp_ge (tgt := 15) hx hb dX5_leads_6 (by decide) (fun c1 => ?_) (fun c1 => ?_)
  · rw [if_pos c1] at hm
    refine lv_lload_n hx hb dX5_leads_15 rfl (lv_at hl 1 rfl) ?_
    refine lv_lload_n hx hb dX5_leads_16 rfl (lv_at hl 2 rfl) ?_
    refine W.lcmp hx hb dX5_leads_17 ?_
    refine lv_if_ne (tgt := 25) hx hb dX5_leads_18 (by decide) (fun c2 => ?_) (fun c2 => ?_)
    · have c2 := fun h9 => c2 ((lg_cmp_eq a1 a3).mpr h9)
      rw [if_neg c2] at hm
      refine lv_iconst (v := (0 : Int32)) hx hb dX5_leads_25 (by decide) ?_
      have hm := Option.some.inj hm
      have e9 : r = (0 : Int32) := (congrArg (fun q => q.1) hm).symm
      rw [e9] at K
      have e9 : y_qwy = qwy := (congrArg (fun q => q.2) hm).symm
      rw [e9] at K
      exact K 26 ls _ _ dX5_leads_26 rfl hP hD hS
    · have c2 := (lg_cmp_eq a1 a3).mp c2
      rw [if_pos c2] at hm
      refine lv_iconst (v := (1 : Int32)) hx hb dX5_leads_21 (by decide) ?_
      refine lv_goto (tgt := 26) hx hb dX5_leads_22 (by decide) ?_
      have hm := Option.some.inj hm
      have e9 : r = (1 : Int32) := (congrArg (fun q => q.1) hm).symm
      rw [e9] at K
      have e9 : y_qwy = qwy := (congrArg (fun q => q.2) hm).symm
      rw [e9] at K
      exact K 26 ls _ _ dX5_leads_26 rfl hP hD hS
  · rw [if_neg c1] at hm
    refine lv_iload hx hb dX5_leads_9 (lv_at hl 3 rfl) ?_
    refine lv_iconst (v := (4 : Int32)) hx hb dX5_leads_11 (by decide) ?_
    refine lv_icmp_lt (tgt := 27) hx hb dX5_leads_12 (by decide) (fun c3 => ?_) (fun c3 => ?_)
    · rw [if_pos c3] at hm
      refine va_gets hx hb hZ.2.2.1 hS hown (hts _ qw_568) (fun _ h9 => h9) dX5_leads_27 ?_
      refine lv_astore (lv' := [(6, .ref tA), (0, .ref oQ), (1, .long a1), (3, .long a3), (5, .int a5)]) hx hb dX5_leads_30 hl (by decide) rfl (fun ls hl => ?_)
      refine lv_aload hx hb dX5_leads_32 (lv_at hl 0 rfl) ?_
      refine va_tlen (v := (9 : Int32)) hx hb hZ.2.2.2 hS rfl dX5_leads_34 ?_
      refine lv_istore (lv' := [(7, .int (9 : Int32)), (6, .ref tA), (0, .ref oQ), (1, .long a1), (3, .long a3), (5, .int a5)]) hx hb dX5_leads_35 hl (by decide) rfl (fun ls hl => ?_)
      refine lv_iconst (v := (0 : Int32)) hx hb dX5_leads_37 (by decide) ?_
      refine lv_istore (lv' := [(8, .int (0 : Int32)), (7, .int (9 : Int32)), (6, .ref tA), (0, .ref oQ), (1, .long a1), (3, .long a3), (5, .int a5)]) hx hb dX5_leads_38 hl (by decide) rfl (fun ls hl => ?_)
      obtain ⟨z17, h16, hm⟩ := jb_out hm
      refine wX5_leads_L40 hx hb hml hown hts hK hA hZ IH hRr hR n _ _ _ h16 ls (lv_sub hl [3, 4, 5, 6, 2, 1, 0] rfl) _ _ hP hD hS ?_ ?_
      · intro y14 e18 ls hl H locs hP hD hS
        subst e18
        simp only [el2] at hm
        refine lv_iconst (v := (1 : Int32)) hx hb dX5_leads_85 (by decide) ?_
        have hm := Option.some.inj hm
        have e9 : r = (1 : Int32) := (congrArg (fun q => q.1) hm).symm
        rw [e9] at K
        have e9 : y_qwy = y14 := (congrArg (fun q => q.2) hm).symm
        rw [e9] at K
        exact K 86 ls _ _ dX5_leads_86 rfl hP hD hS
      · intro y15 e19 ls hl H locs hP hD hS
        subst e19
        simp only [el2] at hm
        refine lv_iconst (v := (0 : Int32)) hx hb dX5_leads_93 (by decide) ?_
        have hm := Option.some.inj hm
        have e9 : r = (0 : Int32) := (congrArg (fun q => q.1) hm).symm
        rw [e9] at K
        have e9 : y_qwy = y15 := (congrArg (fun q => q.2) hm).symm
        rw [e9] at K
        exact K 94 ls _ _ dX5_leads_94 rfl hP hD hS
    · rw [if_neg c3] at hm
      refine lv_lload_n hx hb dX5_leads_15 rfl (lv_at hl 1 rfl) ?_
      refine lv_lload_n hx hb dX5_leads_16 rfl (lv_at hl 2 rfl) ?_
      refine W.lcmp hx hb dX5_leads_17 ?_
      refine lv_if_ne (tgt := 25) hx hb dX5_leads_18 (by decide) (fun c20 => ?_) (fun c20 => ?_)
      · have c20 := fun h9 => c20 ((lg_cmp_eq a1 a3).mpr h9)
        rw [if_neg c20] at hm
        refine lv_iconst (v := (0 : Int32)) hx hb dX5_leads_25 (by decide) ?_
        have hm := Option.some.inj hm
        have e9 : r = (0 : Int32) := (congrArg (fun q => q.1) hm).symm
        rw [e9] at K
        have e9 : y_qwy = qwy := (congrArg (fun q => q.2) hm).symm
        rw [e9] at K
        exact K 26 ls _ _ dX5_leads_26 rfl hP hD hS
      · have c20 := (lg_cmp_eq a1 a3).mp c20
        rw [if_pos c20] at hm
        refine lv_iconst (v := (1 : Int32)) hx hb dX5_leads_21 (by decide) ?_
        refine lv_goto (tgt := 26) hx hb dX5_leads_22 (by decide) ?_
        have hm := Option.some.inj hm
        have e9 : r = (1 : Int32) := (congrArg (fun q => q.1) hm).symm
        rw [e9] at K
        have e9 : y_qwy = qwy := (congrArg (fun q => q.2) hm).symm
        rw [e9] at K
        exact K 26 ls _ _ dX5_leads_26 rfl hP hD hS
set_option maxHeartbeats 4000000 in
set_option maxRecDepth 100000 in
theorem tX5_leads (l : Launch) {D : va_G} {n : Nat} : ∀ (d : Nat) (sz : Nat) {qwy : Nat → Int32} {a1 : Int64} {a3 : Int64} {a5 : Int32} {r : Int32} {y_qwy : Nat → Int32} , mX5_leads n qln fra fst sst fwh srim d qwy a1 a3 a5 = some (r, y_qwy) → Met l yX5_leads (.code yX5_leads cX5_leads 10 (some .boolean) :: tw) ({ frames := d + 4, cells := 0, slots := 0, locals := d * 29 + 99 } : Room) (wrZ D [.ref oQ, .long a1, .long a3, .int a5] (wdQ cI cJ oQ oQw oS oSs oF oFr oFs oFc oFw qln qwy srim sst fw fc fwh fbo fra fst fco fro) [(cI, .int), (cJ, .long)] tS tA sz) (va_Qi (fun q (_ : Unit) => q = r ∧ narrow .boolean (.int q) = .int q) (fun (_ : Unit) (t : State) => va_P D vwCl (wdQ cI cJ oQ oQw oS oSs oF oFr oFs oFc oFw qln y_qwy srim sst fw fc fwh fbo fra fst fco fro) t.heap ∧ va_K D vwCl [(cI, .int), (cJ, .long)] t ∧ va_D (va_A (wdQ cI cJ oQ oQw oS oSs oF oFr oFs oFc oFw qln qwy srim sst fw fc fwh fbo fra fst fco fro) sz) (wdQ cI cJ oQ oQw oS oSs oF oFr oFs oFc oFw qln y_qwy srim sst fw fc fwh fbo fra fst fco fro)) (va_A (wdQ cI cJ oQ oQw oS oSs oF oFr oFs oFc oFw qln qwy srim sst fw fc fwh fbo fra fst fco fro) sz)) 0 0 (va_A (wdQ cI cJ oQ oQw oS oSs oF oFr oFs oFc oFw qln qwy srim sst fw fc fwh fbo fra fst fco fro) sz) := by
  intro d
  induction d with
  | zero => intro sz qwy a1 a3 a5 r y_qwy hm; rw [mX5_leads] at hm; cases hm
  | succ d ih =>
    intro sz qwy a1 a3 a5 r y_qwy hm
    rw [mX5_leads] at hm
    refine Met.ofW (cc := cX5_leads) (maxL := 10) (ret := (some .boolean)) (by decide) rfl ?_
    intro p e s m args below meth c s₁ B hml hv
    obtain ⟨rfl, hsz, hP, hK, hD0, hZ⟩ := hv
    have hx := B.exec
    have hb := B.bytes
    have hr := B.returns
    have hts : ∀ w ∈ tw, w.before _ s = true := fun w h => atoms_spec (ws := .code yX5_leads cX5_leads 10 (some .boolean) :: tw) B.pre w (List.mem_cons_of_mem _ h)
    have hown : s.vm.findClass RX5 = some m.cls := findClass_of_methodNamed B.named
    have hlocks := B.notSynchronized
    subst hsz
    have hD := hD0.self (sz := s.heap.size)
    have hl := lv_entry ([.ref oQ, .long a1, .long a3, .int a5]) (n := 10) (Nat.le_of_ble_eq_true rfl)
    rw [lg_entry_eq]
    generalize (lg_sl ([.ref oQ, .long a1, .long a3, .int a5]) ++ List.replicate (10 - (lg_sl ([.ref oQ, .long a1, .long a3, .int a5])).length) Slot.unset).toArray = ls at hl ⊢
    refine bX5_leads (fr := d + 4) (lo := d * 29 + 99) hx hb hml hown hts hK (fun q h => Or.inr h) hZ (fun sz _ _ _ _ _ _ h => ih sz h) ⟨by show _ ≤ d + 1 + 4; omega, by show _ ≤ (d + 1) * 29 + 99; omega⟩ ⟨by show _ ≤ d + 1 + 4; omega, by show _ ≤ (d + 1) * 29 + 99; omega, Nat.zero_le _, Nat.zero_le _⟩ hm ls hl hP hD va_S.rf (fun pc ls H locs hd hz hP hD hS => ?_)
    exact W.zret hx hb hr hz (fun t ht hW => ⟨⟨r, (), rfl, ⟨rfl, hz⟩, by rw [ht]; exact hP, va_K.moved hW.alike hK, hD⟩, hS.F ht⟩) hS.2.2 hd
set_option maxHeartbeats 4000000 in
set_option maxRecDepth 100000 in
theorem kX5_leads {own : String} {cc : ByteArray} {nL idx pc : Nat} {ls : Array Slot} {rest : List Value} {ws wr : va_W} {n : Nat} {a1 : Int64} {a3 : Int64} {a5 : Int32} {r : Int32} {y_qwy : Nat → Int32} (fx : CallFix p m c cc nL s args tw own) (hq : Cond.methodLink own idx yX5_leads ∈ tw) (isC isR : List Nat) (hC : isC.map (fun i => ws[i]?) = ((wdQ cI cJ oQ oQw oS oSs oF oFr oFs oFc oFw qln qwy srim sst fw fc fwh fbo fra fst fco fro) : va_W).map some) (hRr : isR.map (fun i => ws[i]?) = wr.map some) (hnC : va_nd isC = true) (hn : va_nd isR = true) (hdis : ∀ i ∈ isR, i ∉ isC) (hK : va_K D vwCl [(cI, .int), (cJ, .long)] s) (hZ : stZ A tS tA s s.heap) (hm : mX5_leads n qln fra fst sst fwh srim 8 qwy a1 a3 a5 = some (r, y_qwy)) (hsz : ls.size = nL) (hR : 13 ≤ R.frames ∧ 360 ≤ R.locals ∧ cells ≤ R.cells ∧ slots ≤ R.slots) (hst : (rest.map fun v => v.category).sum ≤ 8) (hd : decode cc pc = .ok (.invokestatic idx, 3)) (hP : va_P D vwCl ws H) (hD : va_D A ws) (hS : va_S A s.heap H locs) (hA : ∀ q, s.heap.size ≤ q → A q) (kk : ∀ (H : Heap) (locs : List Loc), va_P D vwCl (wr ++ (wdQ cI cJ oQ oQw oS oSs oF oFr oFs oFc oFw qln y_qwy srim sst fw fc fwh fbo fra fst fco fro)) H → va_D A (wr ++ (wdQ cI cJ oQ oQw oS oSs oF oFr oFs oFc oFw qln y_qwy srim sst fw fc fwh fbo fra fst fco fro)) → va_S A s.heap H locs → W p l e R s m args below meth c H locs cells slots Q (F0 m (pc + 3) ls (.int r :: rest))) : W p l e R s m args below meth c H locs cells slots Q (F0 m pc ls (.int a5 :: .long a3 :: .long a1 :: .ref oQ :: rest)) := by
  have hPc := va_P.subM hP isC hC
  have hDc := hD.sub isC hnC hC
  have hFc := va_free (wc := (wdQ cI cJ oQ oQw oS oSs oF oFr oFs oFc oFw qln qwy srim sst fw fc fwh fbo fra fst fco fro)) hD hS hA isC hC
  refine va_calli (va_runS (As := [.ref oQ, .long a1, .long a3, .int a5]) (rest := rest) fx (tX5_leads l 8 H.size hm) (va_cwS 4 fx.2.2.2.2 (tw_S2 hq qw_573 qw_574 qw_575) rfl rfl rfl (by decide +kernel) ⟨hR.1, hR.2.1⟩) ⟨wrZ_bl, wrZ_ok hPc hK hDc (stZ_in hZ hS hFc)⟩ rfl rfl hsz rfl (lv_room hst) hd ⟨hR.2.2.1, hR.2.2.2⟩) hS (fun q _ h => hFc q h) hFc (fun r9 u t H1 locs ht hvm hw hB hz1 hk1 hS => ?_)
  obtain ⟨hP1, hK1, hD1⟩ := hB
  rw [ht] at hP1
  rw [hw.1]
  obtain ⟨hP2, hD2⟩ := va_join (wr := wr) (w1 := (wdQ cI cJ oQ oQw oS oSs oF oFr oFs oFc oFw qln y_qwy srim sst fw fc fwh fbo fra fst fco fro)) hP hD isC isR hC hRr hn hdis hk1 hFc hP1 hD1
  exact kk H1 locs hP2 hD2 hS
-- X5_find
def mX5_find_L3 (n : Nat) (fra : Nat → Int32) (fst : Nat → Int64) (sst : Nat → Int32) (fwh : Int64) (srim : Int32) (v1 : Int64) (v3 : Int64) : Nat → (Int32) → (Int32) → (Nat → Int32) → Option (((Int32) × (Nat → Int32)) ⊕ ((Int32) × (Nat → Int32)))
  | 0, _, _, _ => none
  | k + 1, v5, qln, qwy => (if (4 : Int32) < v5 then some (.inr ((qln, qwy))) else jb2 (mX5_leads n v5 fra fst sst fwh srim 8 qwy v1 v3 (0 : Int32)) (fun (r5 : Int32) (y6 : Nat → Int32) => (if r5 = 0 then mX5_find_L3 n fra fst sst fwh srim v1 v3 k (v5 + (1 : Int32)) v5 y6 else some (.inl ((v5, y6))))))
def mX5_find (n : Nat) (fra : Nat → Int32) (fst : Nat → Int64) (sst : Nat → Int32) (fwh : Int64) (srim : Int32) (qln : Int32) (qwy : Nat → Int32) (a1 : Int64) (a3 : Int64) : Option (Int32 × (Int32) × (Nat → Int32)) :=
  jb (mX5_find_L3 n fra fst sst fwh srim a1 a3 n (0 : Int32) qln qwy) (fun q => el2 q (fun q => pr2 q (fun (y8 : Int32) (y9 : Nat → Int32) => (some ((1 : Int32), y8, y9)))) (fun q => pr2 q (fun (y10 : Int32) (y11 : Nat → Int32) => (some ((0 : Int32), y10, y11)))))
theorem dX5_find_0 : decode cX5_find 0 = .ok (.iconst 0, 1) := by decide +kernel
theorem dX5_find_1 : decode cX5_find 1 = .ok (.istore 5, 2) := by decide +kernel
theorem dX5_find_3 : decode cX5_find 3 = .ok (.iload 5, 2) := by decide +kernel
theorem dX5_find_5 : decode cX5_find 5 = .ok (.iconst 4, 1) := by decide +kernel
theorem dX5_find_6 : decode cX5_find 6 = .ok (.if_icmp .gt 27, 3) := by decide +kernel
theorem dX5_find_9 : decode cX5_find 9 = .ok (.aload_n 0, 1) := by decide +kernel
theorem dX5_find_10 : decode cX5_find 10 = .ok (.iload 5, 2) := by decide +kernel
theorem dX5_find_12 : decode cX5_find 12 = .ok (.putfield 13, 3) := by decide +kernel
theorem dX5_find_15 : decode cX5_find 15 = .ok (.aload_n 0, 1) := by decide +kernel
theorem dX5_find_16 : decode cX5_find 16 = .ok (.lload_n 1, 1) := by decide +kernel
theorem dX5_find_17 : decode cX5_find 17 = .ok (.lload_n 3, 1) := by decide +kernel
theorem dX5_find_18 : decode cX5_find 18 = .ok (.iconst 0, 1) := by decide +kernel
theorem dX5_find_19 : decode cX5_find 19 = .ok (.invokestatic 21, 3) := by decide +kernel
theorem dX5_find_22 : decode cX5_find 22 = .ok (.ifCond .eq 5, 3) := by decide +kernel
theorem dX5_find_25 : decode cX5_find 25 = .ok (.iconst 1, 1) := by decide +kernel
theorem dX5_find_26 : decode cX5_find 26 = .ok (.ireturn, 1) := by decide +kernel
theorem dX5_find_27 : decode cX5_find 27 = .ok (.iinc 5 1, 3) := by decide +kernel
theorem dX5_find_30 : decode cX5_find 30 = .ok (.goto (-27), 3) := by decide +kernel
theorem dX5_find_33 : decode cX5_find 33 = .ok (.iconst 0, 1) := by decide +kernel
theorem dX5_find_34 : decode cX5_find 34 = .ok (.ireturn, 1) := by decide +kernel
set_option maxHeartbeats 4000000 in
set_option maxRecDepth 100000 in
theorem wX5_find_L3 {n : Nat} {v1 : Int64} {v3 : Int64} (hx : p.tables.exec = Jvm.exec) (hb : c.code = cX5_find) (hml : c.maxLocals = 6) (hown : s.vm.findClass RX5 = some m.cls) (hts : ∀ w ∈ tw, w.before args s = true) (hK : va_K D vwCl [(cI, .int), (cJ, .long)] s) (hA : ∀ q, s.heap.size ≤ q → A q) (hZ : stZ A tS tA s s.heap) (hR : 13 ≤ R.frames ∧ 360 ≤ R.locals ∧ cells ≤ R.cells ∧ slots ≤ R.slots) : ∀ (k : Nat) (v5 : Int32) (qln : Int32) (qwy : Nat → Int32) (x : ((Int32) × (Nat → Int32)) ⊕ ((Int32) × (Nat → Int32))), mX5_find_L3 n fra fst sst fwh srim v1 v3 k v5 qln qwy = some x → ∀ ls : Array Slot, lv_has ls 6 [(0, .ref oQ), (1, .long v1), (3, .long v3), (5, .int v5)] → ∀ (H : Heap) (locs : List Loc), va_P D vwCl (wdQ cI cJ oQ oQw oS oSs oF oFr oFs oFc oFw qln qwy srim sst fw fc fwh fbo fra fst fco fro) H → va_D A (wdQ cI cJ oQ oQw oS oSs oF oFr oFs oFc oFw qln qwy srim sst fw fc fwh fbo fra fst fco fro) → va_S A s.heap H locs → (∀ (x_qln : Int32) (x_qwy : Nat → Int32), x = .inl ((x_qln, x_qwy)) → ∀ ls : Array Slot, lv_has ls 6 [] → ∀ (H : Heap) (locs : List Loc), va_P D vwCl (wdQ cI cJ oQ oQw oS oSs oF oFr oFs oFc oFw x_qln x_qwy srim sst fw fc fwh fbo fra fst fco fro) H → va_D A (wdQ cI cJ oQ oQw oS oSs oF oFr oFs oFc oFw x_qln x_qwy srim sst fw fc fwh fbo fra fst fco fro) → va_S A s.heap H locs → W p l e R s m args below meth c H locs cells slots Q (F0 m 25 ls [])) → (∀ (x_qln : Int32) (x_qwy : Nat → Int32), x = .inr ((x_qln, x_qwy)) → ∀ ls : Array Slot, lv_has ls 6 [] → ∀ (H : Heap) (locs : List Loc), va_P D vwCl (wdQ cI cJ oQ oQw oS oSs oF oFr oFs oFc oFw x_qln x_qwy srim sst fw fc fwh fbo fra fst fco fro) H → va_D A (wdQ cI cJ oQ oQw oS oSs oF oFr oFs oFc oFw x_qln x_qwy srim sst fw fc fwh fbo fra fst fco fro) → va_S A s.heap H locs → W p l e R s m args below meth c H locs cells slots Q (F0 m 33 ls [])) → W p l e R s m args below meth c H locs cells slots Q (F0 m 3 ls []) := by
  intro k
  induction k with
  | zero => intro v5 qln qwy x hm; rw [mX5_find_L3] at hm; cases hm
  | succ k ih =>
    intro v5 qln qwy x hm ls hl H locs hP hD hS K0 K1
    rw [mX5_find_L3] at hm
    refine lv_iload hx hb dX5_find_3 (lv_at hl 3 rfl) ?_
    refine lv_iconst (v := (4 : Int32)) hx hb dX5_find_5 (by decide) ?_
    refine lv_icmp_gt (tgt := 33) hx hb dX5_find_6 (by decide) (fun c2 => ?_) (fun c2 => ?_)
    · rw [if_pos c2] at hm
      exact K1 _ _ (Option.some.inj hm).symm ls (lv_sub hl [] rfl) _ _ hP hD hS
    · rw [if_neg c2] at hm
      refine lv_aload_n hx hb dX5_find_9 rfl (lv_at hl 0 rfl) ?_
      refine lv_iload hx hb dX5_find_10 (lv_at hl 3 rfl) ?_
      refine va_put (D := D) (ci := 5) (v := .int v5) (ty := .int) (C := RX5) (T := TX5) (N := 3) hx hb hts tnX5 tyX5 tyX5_ok nmX5 hown hK hP hD hS 0 rfl rfl 2 (by decide) (hts _ qw_567) (fun _ h9 => h9) rfl (by decide +kernel) rfl rfl (Nat.le_of_ble_eq_true rfl) dX5_find_12 (fun H locs hP hD hS => ?_)
      have hP : va_P D vwCl (wdQ cI cJ oQ oQw oS oSs oF oFr oFs oFc oFw v5 qwy srim sst fw fc fwh fbo fra fst fco fro) H := hP
      have hD : va_D A (wdQ cI cJ oQ oQw oS oSs oF oFr oFs oFc oFw v5 qwy srim sst fw fc fwh fbo fra fst fco fro) := hD
      refine lv_aload_n hx hb dX5_find_15 rfl (lv_at hl 0 rfl) ?_
      refine lv_lload_n hx hb dX5_find_16 rfl (lv_at hl 1 rfl) ?_
      refine lv_lload_n hx hb dX5_find_17 rfl (lv_at hl 2 rfl) ?_
      refine lv_iconst (v := (0 : Int32)) hx hb dX5_find_18 (by decide) ?_
      obtain ⟨r5, y6, h4, hm⟩ := jb_out2 hm
      refine kX5_leads (ws := (wdQ cI cJ oQ oQw oS oSs oF oFr oFs oFc oFw v5 qwy srim sst fw fc fwh fbo fra fst fco fro)) (wr := []) ⟨hx, hb, hml, hown, hts⟩ qw_572 [0, 1, 2, 3, 4, 5, 6, 7, 8] [] rfl rfl (by decide) (by decide) (by decide) hK hZ h4 hl.1 ⟨Nat.le_trans (by decide) hR.1, Nat.le_trans (by decide) hR.2.1, hR.2.2⟩ (Nat.le_of_ble_eq_true rfl) dX5_find_19 hP hD hS hA (fun H locs hP hD hS => ?_)
      have hP : va_P D vwCl (wdQ cI cJ oQ oQw oS oSs oF oFr oFs oFc oFw v5 y6 srim sst fw fc fwh fbo fra fst fco fro) H := hP.sub [0, 1, 2, 3, 4, 5, 6, 7, 8] rfl
      have hD : va_D A (wdQ cI cJ oQ oQw oS oSs oF oFr oFs oFc oFw v5 y6 srim sst fw fc fwh fbo fra fst fco fro) := hD.sub [0, 1, 2, 3, 4, 5, 6, 7, 8] (by decide) rfl
      refine lv_if_eq (tgt := 27) hx hb dX5_find_22 (by decide) (fun c7 => ?_) (fun c7 => ?_)
      · rw [if_pos c7] at hm
        refine lv_iinc (v := (v5 + (1 : Int32))) (lv' := [(5, .int (v5 + (1 : Int32))), (0, .ref oQ), (1, .long v1), (3, .long v3)]) hx hb dX5_find_27 hl (k := 3) rfl (by rfl) (by decide) rfl (fun ls hl => ?_)
        refine lv_goto (tgt := 3) hx hb dX5_find_30 (by decide) ?_
        exact ih _ _ _ _ hm ls (lv_sub hl [1, 2, 3, 0] rfl) _ _ hP hD hS K0 K1
      · rw [if_neg c7] at hm
        exact K0 _ _ (Option.some.inj hm).symm ls (lv_sub hl [] rfl) _ _ hP hD hS
set_option maxHeartbeats 4000000 in
set_option maxRecDepth 100000 in
theorem bX5_find {n : Nat} {a1 : Int64} {a3 : Int64} {r : Int32} {y_qln : (Int32)} {y_qwy : (Nat → Int32)} (hx : p.tables.exec = Jvm.exec) (hb : c.code = cX5_find) (hml : c.maxLocals = 6) (hown : s.vm.findClass RX5 = some m.cls) (hts : ∀ w ∈ tw, w.before args s = true) (hK : va_K D vwCl [(cI, .int), (cJ, .long)] s) (hA : ∀ q, s.heap.size ≤ q → A q) (hZ : stZ A tS tA s s.heap) (hR : 13 ≤ R.frames ∧ 360 ≤ R.locals ∧ cells ≤ R.cells ∧ slots ≤ R.slots) (hm : mX5_find n fra fst sst fwh srim qln qwy a1 a3 = some (r, y_qln, y_qwy)) (ls : Array Slot) (hl : lv_has ls 6 [(0, .ref oQ), (1, .long a1), (3, .long a3)]) (hP : va_P D vwCl (wdQ cI cJ oQ oQw oS oSs oF oFr oFs oFc oFw qln qwy srim sst fw fc fwh fbo fra fst fco fro) H) (hD : va_D A (wdQ cI cJ oQ oQw oS oSs oF oFr oFs oFc oFw qln qwy srim sst fw fc fwh fbo fra fst fco fro)) (hS : va_S A s.heap H locs) (K : ∀ (pc : Nat) (ls : Array Slot) (H : Heap) (locs : List Loc), decode cX5_find pc = .ok (.ireturn, 1) → narrow .boolean (.int r) = .int r → va_P D vwCl (wdQ cI cJ oQ oQw oS oSs oF oFr oFs oFc oFw y_qln y_qwy srim sst fw fc fwh fbo fra fst fco fro) H → va_D A (wdQ cI cJ oQ oQw oS oSs oF oFr oFs oFc oFw y_qln y_qwy srim sst fw fc fwh fbo fra fst fco fro) → va_S A s.heap H locs → W p l e R s m args below meth c H locs cells slots Q (F0 m pc ls [.int r])) : W p l e R s m args below meth c H locs cells slots Q (F0 m 0 ls []) := by
  unfold mX5_find at hm
  refine lv_iconst (v := (0 : Int32)) hx hb dX5_find_0 (by decide) ?_
  refine lv_istore (lv' := [(5, .int (0 : Int32)), (0, .ref oQ), (1, .long a1), (3, .long a3)]) hx hb dX5_find_1 hl (by decide) rfl (fun ls hl => ?_)
  obtain ⟨z13, h12, hm⟩ := jb_out hm
  refine wX5_find_L3 hx hb hml hown hts hK hA hZ hR n _ _ _ _ h12 ls (lv_sub hl [1, 2, 3, 0] rfl) _ _ hP hD hS ?_ ?_
  · intro y8 y9 e14 ls hl H locs hP hD hS
    subst e14
    simp only [el2] at hm
    simp only [pr2] at hm
    refine lv_iconst (v := (1 : Int32)) hx hb dX5_find_25 (by decide) ?_
    have hm := Option.some.inj hm
    have e9 : r = (1 : Int32) := (congrArg (fun q => q.1) hm).symm
    rw [e9] at K
    have e9 : y_qln = y8 := (congrArg (fun q => q.2.1) hm).symm
    rw [e9] at K
    have e9 : y_qwy = y9 := (congrArg (fun q => q.2.2) hm).symm
    rw [e9] at K
    exact K 26 ls _ _ dX5_find_26 rfl hP hD hS
  · intro y10 y11 e15 ls hl H locs hP hD hS
    subst e15
    simp only [el2] at hm
    simp only [pr2] at hm
    refine lv_iconst (v := (0 : Int32)) hx hb dX5_find_33 (by decide) ?_
    have hm := Option.some.inj hm
    have e9 : r = (0 : Int32) := (congrArg (fun q => q.1) hm).symm
    rw [e9] at K
    have e9 : y_qln = y10 := (congrArg (fun q => q.2.1) hm).symm
    rw [e9] at K
    have e9 : y_qwy = y11 := (congrArg (fun q => q.2.2) hm).symm
    rw [e9] at K
    exact K 34 ls _ _ dX5_find_34 rfl hP hD hS
set_option maxHeartbeats 4000000 in
set_option maxRecDepth 100000 in
theorem tX5_find (l : Launch) {D : va_G} (sz : Nat) {n : Nat} {a1 : Int64} {a3 : Int64} {r : Int32} {y_qln : (Int32)} {y_qwy : (Nat → Int32)} (hm : mX5_find n fra fst sst fwh srim qln qwy a1 a3 = some (r, y_qln, y_qwy)) : Met l yX5_find (.code yX5_find cX5_find 6 (some .boolean) :: tw) ({ frames := 13, cells := 0, slots := 0, locals := 360 } : Room) (wrZ D [.ref oQ, .long a1, .long a3] (wdQ cI cJ oQ oQw oS oSs oF oFr oFs oFc oFw qln qwy srim sst fw fc fwh fbo fra fst fco fro) [(cI, .int), (cJ, .long)] tS tA sz) (va_Qi (fun q (_ : Unit) => q = r ∧ narrow .boolean (.int q) = .int q) (fun (_ : Unit) (t : State) => va_P D vwCl (wdQ cI cJ oQ oQw oS oSs oF oFr oFs oFc oFw y_qln y_qwy srim sst fw fc fwh fbo fra fst fco fro) t.heap ∧ va_K D vwCl [(cI, .int), (cJ, .long)] t ∧ va_D (va_A (wdQ cI cJ oQ oQw oS oSs oF oFr oFs oFc oFw qln qwy srim sst fw fc fwh fbo fra fst fco fro) sz) (wdQ cI cJ oQ oQw oS oSs oF oFr oFs oFc oFw y_qln y_qwy srim sst fw fc fwh fbo fra fst fco fro)) (va_A (wdQ cI cJ oQ oQw oS oSs oF oFr oFs oFc oFw qln qwy srim sst fw fc fwh fbo fra fst fco fro) sz)) 0 0 (va_A (wdQ cI cJ oQ oQw oS oSs oF oFr oFs oFc oFw qln qwy srim sst fw fc fwh fbo fra fst fco fro) sz) := by
  refine Met.ofW (cc := cX5_find) (maxL := 6) (ret := (some .boolean)) (by decide) rfl ?_
  intro p e s m args below meth c s₁ B hml hv
  obtain ⟨rfl, hsz, hP, hK, hD0, hZ⟩ := hv
  have hx := B.exec
  have hb := B.bytes
  have hr := B.returns
  have hts : ∀ w ∈ tw, w.before _ s = true := fun w h => atoms_spec (ws := .code yX5_find cX5_find 6 (some .boolean) :: tw) B.pre w (List.mem_cons_of_mem _ h)
  have hown : s.vm.findClass RX5 = some m.cls := findClass_of_methodNamed B.named
  have hlocks := B.notSynchronized
  subst hsz
  have hD := hD0.self (sz := s.heap.size)
  have hl := lv_entry ([.ref oQ, .long a1, .long a3]) (n := 6) (Nat.le_of_ble_eq_true rfl)
  rw [lg_entry_eq]
  generalize (lg_sl ([.ref oQ, .long a1, .long a3]) ++ List.replicate (6 - (lg_sl ([.ref oQ, .long a1, .long a3])).length) Slot.unset).toArray = ls at hl ⊢
  refine bX5_find hx hb hml hown hts hK (fun q h => Or.inr h) hZ ⟨Nat.le_of_ble_eq_true rfl, Nat.le_of_ble_eq_true rfl, Nat.zero_le _, Nat.zero_le _⟩ hm ls hl hP hD va_S.rf (fun pc ls H locs hd hz hP hD hS => ?_)
  exact W.zret hx hb hr hz (fun t ht hW => ⟨⟨r, (), rfl, ⟨rfl, hz⟩, by rw [ht]; exact hP, va_K.moved hW.alike hK, hD⟩, hS.F ht⟩) hS.2.2 hd
set_option maxHeartbeats 4000000 in
set_option maxRecDepth 100000 in
theorem kX5_find {own : String} {cc : ByteArray} {nL idx pc : Nat} {ls : Array Slot} {rest : List Value} {ws wr : va_W} {n : Nat} {a1 : Int64} {a3 : Int64} {r : Int32} {y_qln : (Int32)} {y_qwy : (Nat → Int32)} (fx : CallFix p m c cc nL s args tw own) (hq : Cond.methodLink own idx yX5_find ∈ tw) (isC isR : List Nat) (hC : isC.map (fun i => ws[i]?) = ((wdQ cI cJ oQ oQw oS oSs oF oFr oFs oFc oFw qln qwy srim sst fw fc fwh fbo fra fst fco fro) : va_W).map some) (hRr : isR.map (fun i => ws[i]?) = wr.map some) (hnC : va_nd isC = true) (hn : va_nd isR = true) (hdis : ∀ i ∈ isR, i ∉ isC) (hK : va_K D vwCl [(cI, .int), (cJ, .long)] s) (hZ : stZ A tS tA s s.heap) (hm : mX5_find n fra fst sst fwh srim qln qwy a1 a3 = some (r, y_qln, y_qwy)) (hsz : ls.size = nL) (hR : 14 ≤ R.frames ∧ 385 ≤ R.locals ∧ cells ≤ R.cells ∧ slots ≤ R.slots) (hst : (rest.map fun v => v.category).sum ≤ 8) (hd : decode cc pc = .ok (.invokevirtual idx, 3)) (hP : va_P D vwCl ws H) (hD : va_D A ws) (hS : va_S A s.heap H locs) (hA : ∀ q, s.heap.size ≤ q → A q) (kk : ∀ (H : Heap) (locs : List Loc), va_P D vwCl (wr ++ (wdQ cI cJ oQ oQw oS oSs oF oFr oFs oFc oFw y_qln y_qwy srim sst fw fc fwh fbo fra fst fco fro)) H → va_D A (wr ++ (wdQ cI cJ oQ oQw oS oSs oF oFr oFs oFc oFw y_qln y_qwy srim sst fw fc fwh fbo fra fst fco fro)) → va_S A s.heap H locs → W p l e R s m args below meth c H locs cells slots Q (F0 m (pc + 3) ls (.int r :: rest))) : W p l e R s m args below meth c H locs cells slots Q (F0 m pc ls (.long a3 :: .long a1 :: .ref oQ :: rest)) := by
  have hPc := va_P.subM hP isC hC
  have hDc := hD.sub isC hnC hC
  have hFc := va_free (wc := (wdQ cI cJ oQ oQw oS oSs oF oFr oFs oFc oFw qln qwy srim sst fw fc fwh fbo fra fst fco fro)) hD hS hA isC hC
  refine va_calli (va_runV (As := [.long a1, .long a3]) (rest := rest) fx (tX5_find l H.size hm) (cwV 2 fx.2.2.2.2 (tw_V hq qw_576 qw_577 qw_574 qw_578) rfl rfl rfl (by decide +kernel) ⟨hR.1, hR.2.1⟩) ⟨wrZ_bl, va_recv hK hPc (ci := 5) (q0 := 0) rfl rfl, wrZ_ok hPc hK hDc (stZ_in hZ hS hFc)⟩ rfl rfl hsz rfl (lv_room hst) hd ⟨hR.2.2.1, hR.2.2.2⟩) hS (fun q _ h => hFc q h) hFc (fun r9 u t H1 locs ht hvm hw hB hz1 hk1 hS => ?_)
  obtain ⟨hP1, hK1, hD1⟩ := hB
  rw [ht] at hP1
  rw [hw.1]
  obtain ⟨hP2, hD2⟩ := va_join (wr := wr) (w1 := (wdQ cI cJ oQ oQw oS oSs oF oFr oFs oFc oFw y_qln y_qwy srim sst fw fc fwh fbo fra fst fco fro)) hP hD isC isR hC hRr hn hdis hk1 hFc hP1 hD1
  exact kk H1 locs hP2 hD2 hS
-- X7_shortest
def mX7_shortest (n : Nat) (qln : Int32) (qwy : Nat → Int32) (fra : Nat → Int32) (fst : Nat → Int64) (sst : Nat → Int32) (fwh : Int64) (srim : Int32) (xpi : Nat → Int64) (a1 : Int32) (a2 : Int32) : Option (Int32 × (Int32) × (Nat → Int32)) :=
  (if (mX7_isPicture a1) = 0 then (some ((-1 : Int32), qln, qwy)) else (if (mX7_isPicture a2) = 0 then (some ((-1 : Int32), qln, qwy)) else gd (ib a1 5) (gd (ib a2 5) (jb3 (mX5_find n fra fst sst fwh srim qln qwy (xpi a1.toNatClampNeg) (xpi a2.toNatClampNeg)) (fun (r9 : Int32) (y10 : Int32) (y11 : Nat → Int32) => (if r9 = 0 then (some ((-9 : Int32), y10, y11)) else (some (y10, y10, y11))))))))
theorem dX7_shortest_0 : decode cX7_shortest 0 = .ok (.iload_n 1, 1) := by decide +kernel
theorem dX7_shortest_1 : decode cX7_shortest 1 = .ok (.invokestatic 81, 3) := by decide +kernel
theorem dX7_shortest_4 : decode cX7_shortest 4 = .ok (.ifCond .eq 10, 3) := by decide +kernel
theorem dX7_shortest_7 : decode cX7_shortest 7 = .ok (.iload_n 2, 1) := by decide +kernel
theorem dX7_shortest_8 : decode cX7_shortest 8 = .ok (.invokestatic 81, 3) := by decide +kernel
theorem dX7_shortest_11 : decode cX7_shortest 11 = .ok (.ifCond .ne 5, 3) := by decide +kernel
theorem dX7_shortest_14 : decode cX7_shortest 14 = .ok (.iconst (-1), 1) := by decide +kernel
theorem dX7_shortest_15 : decode cX7_shortest 15 = .ok (.ireturn, 1) := by decide +kernel
theorem dX7_shortest_16 : decode cX7_shortest 16 = .ok (.aload_n 0, 1) := by decide +kernel
theorem dX7_shortest_17 : decode cX7_shortest 17 = .ok (.getfield 43, 3) := by decide +kernel
theorem dX7_shortest_20 : decode cX7_shortest 20 = .ok (.aload_n 0, 1) := by decide +kernel
theorem dX7_shortest_21 : decode cX7_shortest 21 = .ok (.getfield 18, 3) := by decide +kernel
theorem dX7_shortest_24 : decode cX7_shortest 24 = .ok (.iload_n 1, 1) := by decide +kernel
theorem dX7_shortest_25 : decode cX7_shortest 25 = .ok (.laload, 1) := by decide +kernel
theorem dX7_shortest_26 : decode cX7_shortest 26 = .ok (.aload_n 0, 1) := by decide +kernel
theorem dX7_shortest_27 : decode cX7_shortest 27 = .ok (.getfield 18, 3) := by decide +kernel
theorem dX7_shortest_30 : decode cX7_shortest 30 = .ok (.iload_n 2, 1) := by decide +kernel
theorem dX7_shortest_31 : decode cX7_shortest 31 = .ok (.laload, 1) := by decide +kernel
theorem dX7_shortest_32 : decode cX7_shortest 32 = .ok (.invokevirtual 149, 3) := by decide +kernel
theorem dX7_shortest_35 : decode cX7_shortest 35 = .ok (.ifCond .eq 13, 3) := by decide +kernel
theorem dX7_shortest_38 : decode cX7_shortest 38 = .ok (.aload_n 0, 1) := by decide +kernel
theorem dX7_shortest_39 : decode cX7_shortest 39 = .ok (.getfield 43, 3) := by decide +kernel
theorem dX7_shortest_42 : decode cX7_shortest 42 = .ok (.getfield 153, 3) := by decide +kernel
theorem dX7_shortest_45 : decode cX7_shortest 45 = .ok (.goto 5, 3) := by decide +kernel
theorem dX7_shortest_48 : decode cX7_shortest 48 = .ok (.bipush (-9), 2) := by decide +kernel
theorem dX7_shortest_50 : decode cX7_shortest 50 = .ok (.ireturn, 1) := by decide +kernel
set_option maxHeartbeats 4000000 in
set_option maxRecDepth 100000 in
theorem bX7_shortest {n : Nat} {a1 : Int32} {a2 : Int32} {r : Int32} {y_qln : (Int32)} {y_qwy : (Nat → Int32)} (hx : p.tables.exec = Jvm.exec) (hb : c.code = cX7_shortest) (hml : c.maxLocals = 3) (hown : s.vm.findClass RX7 = some m.cls) (hts : ∀ w ∈ tw, w.before args s = true) (hK : va_K D vwCl [(cI, .int), (cJ, .long), (cG, .object "WornShapes$Program")] s) (hA : ∀ q, s.heap.size ≤ q → A q) (hZ : stZ A tS tA s s.heap) (hR : 14 ≤ R.frames ∧ 385 ≤ R.locals ∧ cells ≤ R.cells ∧ slots ≤ R.slots) (hm : mX7_shortest n qln qwy fra fst sst fwh srim xpi a1 a2 = some (r, y_qln, y_qwy)) (ls : Array Slot) (hl : lv_has ls 3 [(0, .ref oX), (1, .int a1), (2, .int a2)]) (hP : va_P D vwCl (wdX cJ cG cI oX oXp oXg oG0 oGa0 oG1 oGa1 oG2 oGa2 oQ oQw oI oR oRh oRm oB oBw oS oSs oF oFr oFs oFc oFw xpi gs0 ga0 gs1 ga1 gs2 ga2 qln qwy ijn rsz rhi rmi bsz bfi bla bar bwi srim sst fw fc fwh fbo fra fst fco fro) H) (hD : va_D A (wdX cJ cG cI oX oXp oXg oG0 oGa0 oG1 oGa1 oG2 oGa2 oQ oQw oI oR oRh oRm oB oBw oS oSs oF oFr oFs oFc oFw xpi gs0 ga0 gs1 ga1 gs2 ga2 qln qwy ijn rsz rhi rmi bsz bfi bla bar bwi srim sst fw fc fwh fbo fra fst fco fro)) (hS : va_S A s.heap H locs) (K : ∀ (pc : Nat) (ls : Array Slot) (H : Heap) (locs : List Loc), decode cX7_shortest pc = .ok (.ireturn, 1) → va_P D vwCl (wdX cJ cG cI oX oXp oXg oG0 oGa0 oG1 oGa1 oG2 oGa2 oQ oQw oI oR oRh oRm oB oBw oS oSs oF oFr oFs oFc oFw xpi gs0 ga0 gs1 ga1 gs2 ga2 y_qln y_qwy ijn rsz rhi rmi bsz bfi bla bar bwi srim sst fw fc fwh fbo fra fst fco fro) H → va_D A (wdX cJ cG cI oX oXp oXg oG0 oGa0 oG1 oGa1 oG2 oGa2 oQ oQw oI oR oRh oRm oB oBw oS oSs oF oFr oFs oFc oFw xpi gs0 ga0 gs1 ga1 gs2 ga2 y_qln y_qwy ijn rsz rhi rmi bsz bfi bla bar bwi srim sst fw fc fwh fbo fra fst fco fro) → va_S A s.heap H locs → W p l e R s m args below meth c H locs cells slots Q (F0 m pc ls [.int r])) : W p l e R s m args below meth c H locs cells slots Q (F0 m 0 ls []) := by
  unfold mX7_shortest at hm
  refine lv_iload_n hx hb dX7_shortest_0 rfl (lv_at hl 1 rfl) ?_
  refine kX7_isPicture ⟨hx, hb, hml, hown, hts⟩ qw_301 hl.1 ⟨Nat.le_trans (by decide) hR.1, Nat.le_trans (by decide) hR.2.1, hR.2.2⟩ (Nat.le_of_ble_eq_true rfl) dX7_shortest_1 ?_
  refine lv_if_eq (tgt := 14) hx hb dX7_shortest_4 (by decide) (fun c2 => ?_) (fun c2 => ?_)
  · rw [if_pos c2] at hm
    refine lv_iconst (v := (-1 : Int32)) hx hb dX7_shortest_14 (by decide) ?_
    have hm := Option.some.inj hm
    have e9 : r = (-1 : Int32) := (congrArg (fun q => q.1) hm).symm
    rw [e9] at K
    have e9 : y_qln = qln := (congrArg (fun q => q.2.1) hm).symm
    rw [e9] at K
    have e9 : y_qwy = qwy := (congrArg (fun q => q.2.2) hm).symm
    rw [e9] at K
    exact K 15 ls _ _ dX7_shortest_15 hP hD hS
  · rw [if_neg c2] at hm
    refine lv_iload_n hx hb dX7_shortest_7 rfl (lv_at hl 2 rfl) ?_
    refine kX7_isPicture ⟨hx, hb, hml, hown, hts⟩ qw_301 hl.1 ⟨Nat.le_trans (by decide) hR.1, Nat.le_trans (by decide) hR.2.1, hR.2.2⟩ (Nat.le_of_ble_eq_true rfl) dX7_shortest_8 ?_
    refine lv_if_ne (tgt := 16) hx hb dX7_shortest_11 (by decide) (fun c4 => ?_) (fun c4 => ?_)
    · rw [if_neg c4] at hm
      refine lv_aload_n hx hb dX7_shortest_16 rfl (lv_at hl 0 rfl) ?_
      refine va_get (D := D) (ci := 7) (v := .ref oQ) (C := RX7) (T := TX7) (N := 8) hx hb hts tnX7 hown hK hP 0 rfl rfl 4 (by decide) (hts _ qw_579) (fun _ h9 => h9) rfl dX7_shortest_17 ?_
      refine lv_aload_n hx hb dX7_shortest_20 rfl (lv_at hl 0 rfl) ?_
      refine va_get (D := D) (ci := 7) (v := .ref oXp) (C := RX7) (T := TX7) (N := 8) hx hb hts tnX7 hown hK hP 0 rfl rfl 1 (by decide) (hts _ qw_297) (fun _ h9 => h9) rfl dX7_shortest_21 ?_
      refine lv_iload_n hx hb dX7_shortest_24 rfl (lv_at hl 1 rfl) ?_
      obtain ⟨g5, hm⟩ := gd_out hm
      refine va_lald hx hb hK hP 1 1 rfl rfl g5 dX7_shortest_25 ?_
      refine lv_aload_n hx hb dX7_shortest_26 rfl (lv_at hl 0 rfl) ?_
      refine va_get (D := D) (ci := 7) (v := .ref oXp) (C := RX7) (T := TX7) (N := 8) hx hb hts tnX7 hown hK hP 0 rfl rfl 1 (by decide) (hts _ qw_297) (fun _ h9 => h9) rfl dX7_shortest_27 ?_
      refine lv_iload_n hx hb dX7_shortest_30 rfl (lv_at hl 2 rfl) ?_
      obtain ⟨g6, hm⟩ := gd_out hm
      refine va_lald hx hb hK hP 1 1 rfl rfl g6 dX7_shortest_31 ?_
      obtain ⟨r9, y10, y11, h8, hm⟩ := jb_out3 hm
      refine kX5_find (ws := (wdX cJ cG cI oX oXp oXg oG0 oGa0 oG1 oGa1 oG2 oGa2 oQ oQw oI oR oRh oRm oB oBw oS oSs oF oFr oFs oFc oFw xpi gs0 ga0 gs1 ga1 gs2 ga2 qln qwy ijn rsz rhi rmi bsz bfi bla bar bwi srim sst fw fc fwh fbo fra fst fco fro)) (wr := [(oX, .inr (7, [.ref oF, .ref oXp, .ref oS, .ref oXg, .ref oQ, .ref oI, .ref oR, .ref oB])), (oXp, .inl (cJ, 5, .inr (.inl xpi))), (oXg, .inl (cG, 3, .inr (.inr (.inr (.inr (va_p3 oG0 oG1 oG2)))))), (oG0, .inr (4, [.ref oS, .ref oGa0, .int gs0])), (oGa0, .inl (cI, 8, .inl ga0)), (oG1, .inr (4, [.ref oS, .ref oGa1, .int gs1])), (oGa1, .inl (cI, 8, .inl ga1)), (oG2, .inr (4, [.ref oS, .ref oGa2, .int gs2])), (oGa2, .inl (cI, 8, .inl ga2)), (oI, .inr (3, [.ref oF, .int ijn])), (oR, .inr (2, [.ref oF, .ref oS, .ref oRh, .ref oRm, .int rsz])), (oRh, .inl (cI, 8, .inl rhi)), (oRm, .inl (cI, 8, .inl rmi)), (oB, .inr (0, [.ref oF, .ref oBw, .int bsz, .int bfi, .int bla, .int bar])), (oBw, .inl (cJ, 210, .inr (.inl bwi)))]) ⟨hx, hb, hml, hown, hts⟩ qw_580 [9, 10, 17, 18, 19, 20, 21, 22, 23] [0, 1, 2, 3, 4, 5, 6, 7, 8, 11, 12, 13, 14, 15, 16] rfl rfl (by decide) (by decide) (by decide) (hK.sub (tys' := [(cI, .int), (cJ, .long)]) [0, 1] rfl) hZ h8 hl.1 ⟨Nat.le_trans (by decide) hR.1, Nat.le_trans (by decide) hR.2.1, hR.2.2⟩ (Nat.le_of_ble_eq_true rfl) dX7_shortest_32 hP hD hS hA (fun H locs hP hD hS => ?_)
      have hP : va_P D vwCl (wdX cJ cG cI oX oXp oXg oG0 oGa0 oG1 oGa1 oG2 oGa2 oQ oQw oI oR oRh oRm oB oBw oS oSs oF oFr oFs oFc oFw xpi gs0 ga0 gs1 ga1 gs2 ga2 y10 y11 ijn rsz rhi rmi bsz bfi bla bar bwi srim sst fw fc fwh fbo fra fst fco fro) H := hP.sub [0, 1, 2, 3, 4, 5, 6, 7, 8, 15, 16, 9, 10, 11, 12, 13, 14, 17, 18, 19, 20, 21, 22, 23] rfl
      have hD : va_D A (wdX cJ cG cI oX oXp oXg oG0 oGa0 oG1 oGa1 oG2 oGa2 oQ oQw oI oR oRh oRm oB oBw oS oSs oF oFr oFs oFc oFw xpi gs0 ga0 gs1 ga1 gs2 ga2 y10 y11 ijn rsz rhi rmi bsz bfi bla bar bwi srim sst fw fc fwh fbo fra fst fco fro) := hD.sub [0, 1, 2, 3, 4, 5, 6, 7, 8, 15, 16, 9, 10, 11, 12, 13, 14, 17, 18, 19, 20, 21, 22, 23] (by decide) rfl
      refine lv_if_eq (tgt := 48) hx hb dX7_shortest_35 (by decide) (fun c12 => ?_) (fun c12 => ?_)
      · rw [if_pos c12] at hm
        refine lv_bipush (v := (-9 : Int32)) hx hb dX7_shortest_48 (by decide) ?_
        have hm := Option.some.inj hm
        have e9 : r = (-9 : Int32) := (congrArg (fun q => q.1) hm).symm
        rw [e9] at K
        have e9 : y_qln = y10 := (congrArg (fun q => q.2.1) hm).symm
        rw [e9] at K
        have e9 : y_qwy = y11 := (congrArg (fun q => q.2.2) hm).symm
        rw [e9] at K
        exact K 50 ls _ _ dX7_shortest_50 hP hD hS
      · rw [if_neg c12] at hm
        refine lv_aload_n hx hb dX7_shortest_38 rfl (lv_at hl 0 rfl) ?_
        refine va_get (D := D) (ci := 7) (v := .ref oQ) (C := RX7) (T := TX7) (N := 8) hx hb hts tnX7 hown hK hP 0 rfl rfl 4 (by decide) (hts _ qw_579) (fun _ h9 => h9) rfl dX7_shortest_39 ?_
        refine va_get (D := D) (ci := 5) (v := .int y10) (C := RX5) (T := TX5) (N := 3) hx hb hts tnX5 hown hK hP 9 rfl rfl 2 (by decide) (hts _ qw_581) (fun _ h9 => h9) rfl dX7_shortest_42 ?_
        refine lv_goto (tgt := 50) hx hb dX7_shortest_45 (by decide) ?_
        have hm := Option.some.inj hm
        have e9 : r = y10 := (congrArg (fun q => q.1) hm).symm
        rw [e9] at K
        have e9 : y_qln = y10 := (congrArg (fun q => q.2.1) hm).symm
        rw [e9] at K
        have e9 : y_qwy = y11 := (congrArg (fun q => q.2.2) hm).symm
        rw [e9] at K
        exact K 50 ls _ _ dX7_shortest_50 hP hD hS
    · rw [if_pos c4] at hm
      refine lv_iconst (v := (-1 : Int32)) hx hb dX7_shortest_14 (by decide) ?_
      have hm := Option.some.inj hm
      have e9 : r = (-1 : Int32) := (congrArg (fun q => q.1) hm).symm
      rw [e9] at K
      have e9 : y_qln = qln := (congrArg (fun q => q.2.1) hm).symm
      rw [e9] at K
      have e9 : y_qwy = qwy := (congrArg (fun q => q.2.2) hm).symm
      rw [e9] at K
      exact K 15 ls _ _ dX7_shortest_15 hP hD hS
set_option maxHeartbeats 4000000 in
set_option maxRecDepth 100000 in
theorem tX7_shortest (l : Launch) {D : va_G} (sz : Nat) {n : Nat} {a1 : Int32} {a2 : Int32} {r : Int32} {y_qln : (Int32)} {y_qwy : (Nat → Int32)} (hm : mX7_shortest n qln qwy fra fst sst fwh srim xpi a1 a2 = some (r, y_qln, y_qwy)) : Met l yX7_shortest (.code yX7_shortest cX7_shortest 3 (some .int) :: tw) ({ frames := 14, cells := 0, slots := 0, locals := 385 } : Room) (wrZ D [.ref oX, .int a1, .int a2] (wdX cJ cG cI oX oXp oXg oG0 oGa0 oG1 oGa1 oG2 oGa2 oQ oQw oI oR oRh oRm oB oBw oS oSs oF oFr oFs oFc oFw xpi gs0 ga0 gs1 ga1 gs2 ga2 qln qwy ijn rsz rhi rmi bsz bfi bla bar bwi srim sst fw fc fwh fbo fra fst fco fro) [(cI, .int), (cJ, .long), (cG, .object "WornShapes$Program")] tS tA sz) (va_Qi (fun q (_ : Unit) => q = r) (fun (_ : Unit) (t : State) => va_P D vwCl (wdX cJ cG cI oX oXp oXg oG0 oGa0 oG1 oGa1 oG2 oGa2 oQ oQw oI oR oRh oRm oB oBw oS oSs oF oFr oFs oFc oFw xpi gs0 ga0 gs1 ga1 gs2 ga2 y_qln y_qwy ijn rsz rhi rmi bsz bfi bla bar bwi srim sst fw fc fwh fbo fra fst fco fro) t.heap ∧ va_K D vwCl [(cI, .int), (cJ, .long), (cG, .object "WornShapes$Program")] t ∧ va_D (va_A (wdX cJ cG cI oX oXp oXg oG0 oGa0 oG1 oGa1 oG2 oGa2 oQ oQw oI oR oRh oRm oB oBw oS oSs oF oFr oFs oFc oFw xpi gs0 ga0 gs1 ga1 gs2 ga2 qln qwy ijn rsz rhi rmi bsz bfi bla bar bwi srim sst fw fc fwh fbo fra fst fco fro) sz) (wdX cJ cG cI oX oXp oXg oG0 oGa0 oG1 oGa1 oG2 oGa2 oQ oQw oI oR oRh oRm oB oBw oS oSs oF oFr oFs oFc oFw xpi gs0 ga0 gs1 ga1 gs2 ga2 y_qln y_qwy ijn rsz rhi rmi bsz bfi bla bar bwi srim sst fw fc fwh fbo fra fst fco fro)) (va_A (wdX cJ cG cI oX oXp oXg oG0 oGa0 oG1 oGa1 oG2 oGa2 oQ oQw oI oR oRh oRm oB oBw oS oSs oF oFr oFs oFc oFw xpi gs0 ga0 gs1 ga1 gs2 ga2 qln qwy ijn rsz rhi rmi bsz bfi bla bar bwi srim sst fw fc fwh fbo fra fst fco fro) sz)) 0 0 (va_A (wdX cJ cG cI oX oXp oXg oG0 oGa0 oG1 oGa1 oG2 oGa2 oQ oQw oI oR oRh oRm oB oBw oS oSs oF oFr oFs oFc oFw xpi gs0 ga0 gs1 ga1 gs2 ga2 qln qwy ijn rsz rhi rmi bsz bfi bla bar bwi srim sst fw fc fwh fbo fra fst fco fro) sz) := by
  refine Met.ofW (cc := cX7_shortest) (maxL := 3) (ret := (some .int)) (by decide) rfl ?_
  intro p e s m args below meth c s₁ B hml hv
  obtain ⟨rfl, hsz, hP, hK, hD0, hZ⟩ := hv
  have hx := B.exec
  have hb := B.bytes
  have hr := B.returns
  have hts : ∀ w ∈ tw, w.before _ s = true := fun w h => atoms_spec (ws := .code yX7_shortest cX7_shortest 3 (some .int) :: tw) B.pre w (List.mem_cons_of_mem _ h)
  have hown : s.vm.findClass RX7 = some m.cls := findClass_of_methodNamed B.named
  have hlocks := B.notSynchronized
  subst hsz
  have hD := hD0.self (sz := s.heap.size)
  have hl := lv_entry ([.ref oX, .int a1, .int a2]) (n := 3) (Nat.le_of_ble_eq_true rfl)
  rw [lg_entry_eq]
  generalize (lg_sl ([.ref oX, .int a1, .int a2]) ++ List.replicate (3 - (lg_sl ([.ref oX, .int a1, .int a2])).length) Slot.unset).toArray = ls at hl ⊢
  refine bX7_shortest hx hb hml hown hts hK (fun q h => Or.inr h) hZ ⟨Nat.le_of_ble_eq_true rfl, Nat.le_of_ble_eq_true rfl, Nat.zero_le _, Nat.zero_le _⟩ hm ls hl hP hD va_S.rf (fun pc ls H locs hd hP hD hS => ?_)
  exact W.iret hx hb hr (fun t ht hW => ⟨⟨r, (), rfl, rfl, by rw [ht]; exact hP, va_K.moved hW.alike hK, hD⟩, hS.F ht⟩) hS.2.2 hd
set_option maxHeartbeats 4000000 in
set_option maxRecDepth 100000 in
theorem kX7_shortest {own : String} {cc : ByteArray} {nL idx pc : Nat} {ls : Array Slot} {rest : List Value} {ws wr : va_W} {n : Nat} {a1 : Int32} {a2 : Int32} {r : Int32} {y_qln : (Int32)} {y_qwy : (Nat → Int32)} (fx : CallFix p m c cc nL s args tw own) (hq : Cond.methodLink own idx yX7_shortest ∈ tw) (isC isR : List Nat) (hC : isC.map (fun i => ws[i]?) = ((wdX cJ cG cI oX oXp oXg oG0 oGa0 oG1 oGa1 oG2 oGa2 oQ oQw oI oR oRh oRm oB oBw oS oSs oF oFr oFs oFc oFw xpi gs0 ga0 gs1 ga1 gs2 ga2 qln qwy ijn rsz rhi rmi bsz bfi bla bar bwi srim sst fw fc fwh fbo fra fst fco fro) : va_W).map some) (hRr : isR.map (fun i => ws[i]?) = wr.map some) (hnC : va_nd isC = true) (hn : va_nd isR = true) (hdis : ∀ i ∈ isR, i ∉ isC) (hK : va_K D vwCl [(cI, .int), (cJ, .long), (cG, .object "WornShapes$Program")] s) (hZ : stZ A tS tA s s.heap) (hm : mX7_shortest n qln qwy fra fst sst fwh srim xpi a1 a2 = some (r, y_qln, y_qwy)) (hsz : ls.size = nL) (hR : 15 ≤ R.frames ∧ 407 ≤ R.locals ∧ cells ≤ R.cells ∧ slots ≤ R.slots) (hst : (rest.map fun v => v.category).sum ≤ 8) (hd : decode cc pc = .ok (.invokevirtual idx, 3)) (hP : va_P D vwCl ws H) (hD : va_D A ws) (hS : va_S A s.heap H locs) (hA : ∀ q, s.heap.size ≤ q → A q) (kk : ∀ (H : Heap) (locs : List Loc), va_P D vwCl (wr ++ (wdX cJ cG cI oX oXp oXg oG0 oGa0 oG1 oGa1 oG2 oGa2 oQ oQw oI oR oRh oRm oB oBw oS oSs oF oFr oFs oFc oFw xpi gs0 ga0 gs1 ga1 gs2 ga2 y_qln y_qwy ijn rsz rhi rmi bsz bfi bla bar bwi srim sst fw fc fwh fbo fra fst fco fro)) H → va_D A (wr ++ (wdX cJ cG cI oX oXp oXg oG0 oGa0 oG1 oGa1 oG2 oGa2 oQ oQw oI oR oRh oRm oB oBw oS oSs oF oFr oFs oFc oFw xpi gs0 ga0 gs1 ga1 gs2 ga2 y_qln y_qwy ijn rsz rhi rmi bsz bfi bla bar bwi srim sst fw fc fwh fbo fra fst fco fro)) → va_S A s.heap H locs → W p l e R s m args below meth c H locs cells slots Q (F0 m (pc + 3) ls (.int r :: rest))) : W p l e R s m args below meth c H locs cells slots Q (F0 m pc ls (.int a2 :: .int a1 :: .ref oX :: rest)) := by
  have hPc := va_P.subM hP isC hC
  have hDc := hD.sub isC hnC hC
  have hFc := va_free (wc := (wdX cJ cG cI oX oXp oXg oG0 oGa0 oG1 oGa1 oG2 oGa2 oQ oQw oI oR oRh oRm oB oBw oS oSs oF oFr oFs oFc oFw xpi gs0 ga0 gs1 ga1 gs2 ga2 qln qwy ijn rsz rhi rmi bsz bfi bla bar bwi srim sst fw fc fwh fbo fra fst fco fro)) hD hS hA isC hC
  refine va_calli (va_runV (As := [.int a1, .int a2]) (rest := rest) fx (tX7_shortest l H.size hm) (cwV 2 fx.2.2.2.2 (tw_V hq qw_582 qw_583 qw_288 qw_584) rfl rfl rfl (by decide +kernel) ⟨hR.1, hR.2.1⟩) ⟨wrZ_bl, va_recv hK hPc (ci := 7) (q0 := 0) rfl rfl, wrZ_ok hPc hK hDc (stZ_in hZ hS hFc)⟩ rfl rfl hsz rfl (lv_room hst) hd ⟨hR.2.2.1, hR.2.2.2⟩) hS (fun q _ h => hFc q h) hFc (fun r9 u t H1 locs ht hvm hw hB hz1 hk1 hS => ?_)
  obtain ⟨hP1, hK1, hD1⟩ := hB
  rw [ht] at hP1
  rw [hw]
  obtain ⟨hP2, hD2⟩ := va_join (wr := wr) (w1 := (wdX cJ cG cI oX oXp oXg oG0 oGa0 oG1 oGa1 oG2 oGa2 oQ oQw oI oR oRh oRm oB oBw oS oSs oF oFr oFs oFc oFw xpi gs0 ga0 gs1 ga1 gs2 ga2 y_qln y_qwy ijn rsz rhi rmi bsz bfi bla bar bwi srim sst fw fc fwh fbo fra fst fco fro)) hP hD isC isR hC hRr hn hdis hk1 hFc hP1 hD1
  exact kk H1 locs hP2 hD2 hS
-- X7_step
def mX7_step (n : Nat) (qln : Int32) (qwy : Nat → Int32) (fra : Nat → Int32) (fst : Nat → Int64) (sst : Nat → Int32) (fwh : Int64) (srim : Int32) (xpi : Nat → Int64) (a1 : Int32) (a2 : Int32) (a3 : Int32) : Option (Int32 × (Int32) × (Nat → Int32)) :=
  (if (mX7_isPicture a1) = 0 then (some ((-1 : Int32), qln, qwy)) else (if (mX7_isPicture a2) = 0 then (some ((-1 : Int32), qln, qwy)) else (if a3 < 0 then (some ((-9 : Int32), qln, qwy)) else (if (4 : Int32) ≤ a3 then (some ((-9 : Int32), qln, qwy)) else gd (ib a1 5) (gd (ib a2 5) (jb3 (mX5_find n fra fst sst fwh srim qln qwy (xpi a1.toNatClampNeg) (xpi a2.toNatClampNeg)) (fun (r11 : Int32) (y12 : Int32) (y13 : Nat → Int32) => (if r11 = 0 then (some ((-9 : Int32), y12, y13)) else (if y12 ≤ a3 then (some ((-9 : Int32), y12, y13)) else gd (ib a3 4) ((some ((y13 a3.toNatClampNeg), y12, y13))))))))))))
theorem dX7_step_0 : decode cX7_step 0 = .ok (.iload_n 1, 1) := by decide +kernel
theorem dX7_step_1 : decode cX7_step 1 = .ok (.invokestatic 81, 3) := by decide +kernel
theorem dX7_step_4 : decode cX7_step 4 = .ok (.ifCond .eq 10, 3) := by decide +kernel
theorem dX7_step_7 : decode cX7_step 7 = .ok (.iload_n 2, 1) := by decide +kernel
theorem dX7_step_8 : decode cX7_step 8 = .ok (.invokestatic 81, 3) := by decide +kernel
theorem dX7_step_11 : decode cX7_step 11 = .ok (.ifCond .ne 5, 3) := by decide +kernel
theorem dX7_step_14 : decode cX7_step 14 = .ok (.iconst (-1), 1) := by decide +kernel
theorem dX7_step_15 : decode cX7_step 15 = .ok (.ireturn, 1) := by decide +kernel
theorem dX7_step_16 : decode cX7_step 16 = .ok (.iload_n 3, 1) := by decide +kernel
theorem dX7_step_17 : decode cX7_step 17 = .ok (.ifCond .lt 30, 3) := by decide +kernel
theorem dX7_step_20 : decode cX7_step 20 = .ok (.iload_n 3, 1) := by decide +kernel
theorem dX7_step_21 : decode cX7_step 21 = .ok (.iconst 4, 1) := by decide +kernel
theorem dX7_step_22 : decode cX7_step 22 = .ok (.if_icmp .ge 25, 3) := by decide +kernel
theorem dX7_step_25 : decode cX7_step 25 = .ok (.aload_n 0, 1) := by decide +kernel
theorem dX7_step_26 : decode cX7_step 26 = .ok (.getfield 43, 3) := by decide +kernel
theorem dX7_step_29 : decode cX7_step 29 = .ok (.aload_n 0, 1) := by decide +kernel
theorem dX7_step_30 : decode cX7_step 30 = .ok (.getfield 18, 3) := by decide +kernel
theorem dX7_step_33 : decode cX7_step 33 = .ok (.iload_n 1, 1) := by decide +kernel
theorem dX7_step_34 : decode cX7_step 34 = .ok (.laload, 1) := by decide +kernel
theorem dX7_step_35 : decode cX7_step 35 = .ok (.aload_n 0, 1) := by decide +kernel
theorem dX7_step_36 : decode cX7_step 36 = .ok (.getfield 18, 3) := by decide +kernel
theorem dX7_step_39 : decode cX7_step 39 = .ok (.iload_n 2, 1) := by decide +kernel
theorem dX7_step_40 : decode cX7_step 40 = .ok (.laload, 1) := by decide +kernel
theorem dX7_step_41 : decode cX7_step 41 = .ok (.invokevirtual 149, 3) := by decide +kernel
theorem dX7_step_44 : decode cX7_step 44 = .ok (.ifCond .ne 6, 3) := by decide +kernel
theorem dX7_step_47 : decode cX7_step 47 = .ok (.bipush (-9), 2) := by decide +kernel
theorem dX7_step_49 : decode cX7_step 49 = .ok (.ireturn, 1) := by decide +kernel
theorem dX7_step_50 : decode cX7_step 50 = .ok (.iload_n 3, 1) := by decide +kernel
theorem dX7_step_51 : decode cX7_step 51 = .ok (.aload_n 0, 1) := by decide +kernel
theorem dX7_step_52 : decode cX7_step 52 = .ok (.getfield 43, 3) := by decide +kernel
theorem dX7_step_55 : decode cX7_step 55 = .ok (.getfield 153, 3) := by decide +kernel
theorem dX7_step_58 : decode cX7_step 58 = .ok (.if_icmp .ge 15, 3) := by decide +kernel
theorem dX7_step_61 : decode cX7_step 61 = .ok (.aload_n 0, 1) := by decide +kernel
theorem dX7_step_62 : decode cX7_step 62 = .ok (.getfield 43, 3) := by decide +kernel
theorem dX7_step_65 : decode cX7_step 65 = .ok (.getfield 156, 3) := by decide +kernel
theorem dX7_step_68 : decode cX7_step 68 = .ok (.iload_n 3, 1) := by decide +kernel
theorem dX7_step_69 : decode cX7_step 69 = .ok (.iaload, 1) := by decide +kernel
theorem dX7_step_70 : decode cX7_step 70 = .ok (.goto 5, 3) := by decide +kernel
theorem dX7_step_73 : decode cX7_step 73 = .ok (.bipush (-9), 2) := by decide +kernel
theorem dX7_step_75 : decode cX7_step 75 = .ok (.ireturn, 1) := by decide +kernel
set_option maxHeartbeats 4000000 in
set_option maxRecDepth 100000 in
theorem bX7_step {n : Nat} {a1 : Int32} {a2 : Int32} {a3 : Int32} {r : Int32} {y_qln : (Int32)} {y_qwy : (Nat → Int32)} (hx : p.tables.exec = Jvm.exec) (hb : c.code = cX7_step) (hml : c.maxLocals = 4) (hown : s.vm.findClass RX7 = some m.cls) (hts : ∀ w ∈ tw, w.before args s = true) (hK : va_K D vwCl [(cI, .int), (cJ, .long), (cG, .object "WornShapes$Program")] s) (hA : ∀ q, s.heap.size ≤ q → A q) (hZ : stZ A tS tA s s.heap) (hR : 14 ≤ R.frames ∧ 385 ≤ R.locals ∧ cells ≤ R.cells ∧ slots ≤ R.slots) (hm : mX7_step n qln qwy fra fst sst fwh srim xpi a1 a2 a3 = some (r, y_qln, y_qwy)) (ls : Array Slot) (hl : lv_has ls 4 [(0, .ref oX), (1, .int a1), (2, .int a2), (3, .int a3)]) (hP : va_P D vwCl (wdX cJ cG cI oX oXp oXg oG0 oGa0 oG1 oGa1 oG2 oGa2 oQ oQw oI oR oRh oRm oB oBw oS oSs oF oFr oFs oFc oFw xpi gs0 ga0 gs1 ga1 gs2 ga2 qln qwy ijn rsz rhi rmi bsz bfi bla bar bwi srim sst fw fc fwh fbo fra fst fco fro) H) (hD : va_D A (wdX cJ cG cI oX oXp oXg oG0 oGa0 oG1 oGa1 oG2 oGa2 oQ oQw oI oR oRh oRm oB oBw oS oSs oF oFr oFs oFc oFw xpi gs0 ga0 gs1 ga1 gs2 ga2 qln qwy ijn rsz rhi rmi bsz bfi bla bar bwi srim sst fw fc fwh fbo fra fst fco fro)) (hS : va_S A s.heap H locs) (K : ∀ (pc : Nat) (ls : Array Slot) (H : Heap) (locs : List Loc), decode cX7_step pc = .ok (.ireturn, 1) → va_P D vwCl (wdX cJ cG cI oX oXp oXg oG0 oGa0 oG1 oGa1 oG2 oGa2 oQ oQw oI oR oRh oRm oB oBw oS oSs oF oFr oFs oFc oFw xpi gs0 ga0 gs1 ga1 gs2 ga2 y_qln y_qwy ijn rsz rhi rmi bsz bfi bla bar bwi srim sst fw fc fwh fbo fra fst fco fro) H → va_D A (wdX cJ cG cI oX oXp oXg oG0 oGa0 oG1 oGa1 oG2 oGa2 oQ oQw oI oR oRh oRm oB oBw oS oSs oF oFr oFs oFc oFw xpi gs0 ga0 gs1 ga1 gs2 ga2 y_qln y_qwy ijn rsz rhi rmi bsz bfi bla bar bwi srim sst fw fc fwh fbo fra fst fco fro) → va_S A s.heap H locs → W p l e R s m args below meth c H locs cells slots Q (F0 m pc ls [.int r])) : W p l e R s m args below meth c H locs cells slots Q (F0 m 0 ls []) := by
  unfold mX7_step at hm
  refine lv_iload_n hx hb dX7_step_0 rfl (lv_at hl 1 rfl) ?_
  refine kX7_isPicture ⟨hx, hb, hml, hown, hts⟩ qw_301 hl.1 ⟨Nat.le_trans (by decide) hR.1, Nat.le_trans (by decide) hR.2.1, hR.2.2⟩ (Nat.le_of_ble_eq_true rfl) dX7_step_1 ?_
  refine lv_if_eq (tgt := 14) hx hb dX7_step_4 (by decide) (fun c2 => ?_) (fun c2 => ?_)
  · rw [if_pos c2] at hm
    refine lv_iconst (v := (-1 : Int32)) hx hb dX7_step_14 (by decide) ?_
    have hm := Option.some.inj hm
    have e9 : r = (-1 : Int32) := (congrArg (fun q => q.1) hm).symm
    rw [e9] at K
    have e9 : y_qln = qln := (congrArg (fun q => q.2.1) hm).symm
    rw [e9] at K
    have e9 : y_qwy = qwy := (congrArg (fun q => q.2.2) hm).symm
    rw [e9] at K
    exact K 15 ls _ _ dX7_step_15 hP hD hS
  · rw [if_neg c2] at hm
    refine lv_iload_n hx hb dX7_step_7 rfl (lv_at hl 2 rfl) ?_
    refine kX7_isPicture ⟨hx, hb, hml, hown, hts⟩ qw_301 hl.1 ⟨Nat.le_trans (by decide) hR.1, Nat.le_trans (by decide) hR.2.1, hR.2.2⟩ (Nat.le_of_ble_eq_true rfl) dX7_step_8 ?_
    refine lv_if_ne (tgt := 16) hx hb dX7_step_11 (by decide) (fun c4 => ?_) (fun c4 => ?_)
    · rw [if_neg c4] at hm
      refine lv_iload_n hx hb dX7_step_16 rfl (lv_at hl 3 rfl) ?_
      refine lv_if_lt (tgt := 47) hx hb dX7_step_17 (by decide) (fun c5 => ?_) (fun c5 => ?_)
      · rw [if_pos c5] at hm
        refine lv_bipush (v := (-9 : Int32)) hx hb dX7_step_47 (by decide) ?_
        have hm := Option.some.inj hm
        have e9 : r = (-9 : Int32) := (congrArg (fun q => q.1) hm).symm
        rw [e9] at K
        have e9 : y_qln = qln := (congrArg (fun q => q.2.1) hm).symm
        rw [e9] at K
        have e9 : y_qwy = qwy := (congrArg (fun q => q.2.2) hm).symm
        rw [e9] at K
        exact K 49 ls _ _ dX7_step_49 hP hD hS
      · rw [if_neg c5] at hm
        refine lv_iload_n hx hb dX7_step_20 rfl (lv_at hl 3 rfl) ?_
        refine lv_iconst (v := (4 : Int32)) hx hb dX7_step_21 (by decide) ?_
        refine lv_icmp_ge (tgt := 47) hx hb dX7_step_22 (by decide) (fun c6 => ?_) (fun c6 => ?_)
        · rw [if_pos c6] at hm
          refine lv_bipush (v := (-9 : Int32)) hx hb dX7_step_47 (by decide) ?_
          have hm := Option.some.inj hm
          have e9 : r = (-9 : Int32) := (congrArg (fun q => q.1) hm).symm
          rw [e9] at K
          have e9 : y_qln = qln := (congrArg (fun q => q.2.1) hm).symm
          rw [e9] at K
          have e9 : y_qwy = qwy := (congrArg (fun q => q.2.2) hm).symm
          rw [e9] at K
          exact K 49 ls _ _ dX7_step_49 hP hD hS
        · rw [if_neg c6] at hm
          refine lv_aload_n hx hb dX7_step_25 rfl (lv_at hl 0 rfl) ?_
          refine va_get (D := D) (ci := 7) (v := .ref oQ) (C := RX7) (T := TX7) (N := 8) hx hb hts tnX7 hown hK hP 0 rfl rfl 4 (by decide) (hts _ qw_579) (fun _ h9 => h9) rfl dX7_step_26 ?_
          refine lv_aload_n hx hb dX7_step_29 rfl (lv_at hl 0 rfl) ?_
          refine va_get (D := D) (ci := 7) (v := .ref oXp) (C := RX7) (T := TX7) (N := 8) hx hb hts tnX7 hown hK hP 0 rfl rfl 1 (by decide) (hts _ qw_297) (fun _ h9 => h9) rfl dX7_step_30 ?_
          refine lv_iload_n hx hb dX7_step_33 rfl (lv_at hl 1 rfl) ?_
          obtain ⟨g7, hm⟩ := gd_out hm
          refine va_lald hx hb hK hP 1 1 rfl rfl g7 dX7_step_34 ?_
          refine lv_aload_n hx hb dX7_step_35 rfl (lv_at hl 0 rfl) ?_
          refine va_get (D := D) (ci := 7) (v := .ref oXp) (C := RX7) (T := TX7) (N := 8) hx hb hts tnX7 hown hK hP 0 rfl rfl 1 (by decide) (hts _ qw_297) (fun _ h9 => h9) rfl dX7_step_36 ?_
          refine lv_iload_n hx hb dX7_step_39 rfl (lv_at hl 2 rfl) ?_
          obtain ⟨g8, hm⟩ := gd_out hm
          refine va_lald hx hb hK hP 1 1 rfl rfl g8 dX7_step_40 ?_
          obtain ⟨r11, y12, y13, h10, hm⟩ := jb_out3 hm
          refine kX5_find (ws := (wdX cJ cG cI oX oXp oXg oG0 oGa0 oG1 oGa1 oG2 oGa2 oQ oQw oI oR oRh oRm oB oBw oS oSs oF oFr oFs oFc oFw xpi gs0 ga0 gs1 ga1 gs2 ga2 qln qwy ijn rsz rhi rmi bsz bfi bla bar bwi srim sst fw fc fwh fbo fra fst fco fro)) (wr := [(oX, .inr (7, [.ref oF, .ref oXp, .ref oS, .ref oXg, .ref oQ, .ref oI, .ref oR, .ref oB])), (oXp, .inl (cJ, 5, .inr (.inl xpi))), (oXg, .inl (cG, 3, .inr (.inr (.inr (.inr (va_p3 oG0 oG1 oG2)))))), (oG0, .inr (4, [.ref oS, .ref oGa0, .int gs0])), (oGa0, .inl (cI, 8, .inl ga0)), (oG1, .inr (4, [.ref oS, .ref oGa1, .int gs1])), (oGa1, .inl (cI, 8, .inl ga1)), (oG2, .inr (4, [.ref oS, .ref oGa2, .int gs2])), (oGa2, .inl (cI, 8, .inl ga2)), (oI, .inr (3, [.ref oF, .int ijn])), (oR, .inr (2, [.ref oF, .ref oS, .ref oRh, .ref oRm, .int rsz])), (oRh, .inl (cI, 8, .inl rhi)), (oRm, .inl (cI, 8, .inl rmi)), (oB, .inr (0, [.ref oF, .ref oBw, .int bsz, .int bfi, .int bla, .int bar])), (oBw, .inl (cJ, 210, .inr (.inl bwi)))]) ⟨hx, hb, hml, hown, hts⟩ qw_580 [9, 10, 17, 18, 19, 20, 21, 22, 23] [0, 1, 2, 3, 4, 5, 6, 7, 8, 11, 12, 13, 14, 15, 16] rfl rfl (by decide) (by decide) (by decide) (hK.sub (tys' := [(cI, .int), (cJ, .long)]) [0, 1] rfl) hZ h10 hl.1 ⟨Nat.le_trans (by decide) hR.1, Nat.le_trans (by decide) hR.2.1, hR.2.2⟩ (Nat.le_of_ble_eq_true rfl) dX7_step_41 hP hD hS hA (fun H locs hP hD hS => ?_)
          have hP : va_P D vwCl (wdX cJ cG cI oX oXp oXg oG0 oGa0 oG1 oGa1 oG2 oGa2 oQ oQw oI oR oRh oRm oB oBw oS oSs oF oFr oFs oFc oFw xpi gs0 ga0 gs1 ga1 gs2 ga2 y12 y13 ijn rsz rhi rmi bsz bfi bla bar bwi srim sst fw fc fwh fbo fra fst fco fro) H := hP.sub [0, 1, 2, 3, 4, 5, 6, 7, 8, 15, 16, 9, 10, 11, 12, 13, 14, 17, 18, 19, 20, 21, 22, 23] rfl
          have hD : va_D A (wdX cJ cG cI oX oXp oXg oG0 oGa0 oG1 oGa1 oG2 oGa2 oQ oQw oI oR oRh oRm oB oBw oS oSs oF oFr oFs oFc oFw xpi gs0 ga0 gs1 ga1 gs2 ga2 y12 y13 ijn rsz rhi rmi bsz bfi bla bar bwi srim sst fw fc fwh fbo fra fst fco fro) := hD.sub [0, 1, 2, 3, 4, 5, 6, 7, 8, 15, 16, 9, 10, 11, 12, 13, 14, 17, 18, 19, 20, 21, 22, 23] (by decide) rfl
          refine lv_if_ne (tgt := 50) hx hb dX7_step_44 (by decide) (fun c14 => ?_) (fun c14 => ?_)
          · rw [if_neg c14] at hm
            refine lv_iload_n hx hb dX7_step_50 rfl (lv_at hl 3 rfl) ?_
            refine lv_aload_n hx hb dX7_step_51 rfl (lv_at hl 0 rfl) ?_
            refine va_get (D := D) (ci := 7) (v := .ref oQ) (C := RX7) (T := TX7) (N := 8) hx hb hts tnX7 hown hK hP 0 rfl rfl 4 (by decide) (hts _ qw_579) (fun _ h9 => h9) rfl dX7_step_52 ?_
            refine va_get (D := D) (ci := 5) (v := .int y12) (C := RX5) (T := TX5) (N := 3) hx hb hts tnX5 hown hK hP 9 rfl rfl 2 (by decide) (hts _ qw_581) (fun _ h9 => h9) rfl dX7_step_55 ?_
            refine lv_icmp_ge (tgt := 73) hx hb dX7_step_58 (by decide) (fun c15 => ?_) (fun c15 => ?_)
            · rw [if_pos c15] at hm
              refine lv_bipush (v := (-9 : Int32)) hx hb dX7_step_73 (by decide) ?_
              have hm := Option.some.inj hm
              have e9 : r = (-9 : Int32) := (congrArg (fun q => q.1) hm).symm
              rw [e9] at K
              have e9 : y_qln = y12 := (congrArg (fun q => q.2.1) hm).symm
              rw [e9] at K
              have e9 : y_qwy = y13 := (congrArg (fun q => q.2.2) hm).symm
              rw [e9] at K
              exact K 75 ls _ _ dX7_step_75 hP hD hS
            · rw [if_neg c15] at hm
              refine lv_aload_n hx hb dX7_step_61 rfl (lv_at hl 0 rfl) ?_
              refine va_get (D := D) (ci := 7) (v := .ref oQ) (C := RX7) (T := TX7) (N := 8) hx hb hts tnX7 hown hK hP 0 rfl rfl 4 (by decide) (hts _ qw_579) (fun _ h9 => h9) rfl dX7_step_62 ?_
              refine va_get (D := D) (ci := 5) (v := .ref oQw) (C := RX5) (T := TX5) (N := 3) hx hb hts tnX5 hown hK hP 9 rfl rfl 1 (by decide) (hts _ qw_585) (fun _ h9 => h9) rfl dX7_step_65 ?_
              refine lv_iload_n hx hb dX7_step_68 rfl (lv_at hl 3 rfl) ?_
              obtain ⟨g16, hm⟩ := gd_out hm
              refine va_iald hx hb hK hP 10 0 rfl rfl g16 dX7_step_69 ?_
              refine lv_goto (tgt := 75) hx hb dX7_step_70 (by decide) ?_
              have hm := Option.some.inj hm
              have e9 : r = (y13 a3.toNatClampNeg) := (congrArg (fun q => q.1) hm).symm
              rw [e9] at K
              have e9 : y_qln = y12 := (congrArg (fun q => q.2.1) hm).symm
              rw [e9] at K
              have e9 : y_qwy = y13 := (congrArg (fun q => q.2.2) hm).symm
              rw [e9] at K
              exact K 75 ls _ _ dX7_step_75 hP hD hS
          · rw [if_pos c14] at hm
            refine lv_bipush (v := (-9 : Int32)) hx hb dX7_step_47 (by decide) ?_
            have hm := Option.some.inj hm
            have e9 : r = (-9 : Int32) := (congrArg (fun q => q.1) hm).symm
            rw [e9] at K
            have e9 : y_qln = y12 := (congrArg (fun q => q.2.1) hm).symm
            rw [e9] at K
            have e9 : y_qwy = y13 := (congrArg (fun q => q.2.2) hm).symm
            rw [e9] at K
            exact K 49 ls _ _ dX7_step_49 hP hD hS
    · rw [if_pos c4] at hm
      refine lv_iconst (v := (-1 : Int32)) hx hb dX7_step_14 (by decide) ?_
      have hm := Option.some.inj hm
      have e9 : r = (-1 : Int32) := (congrArg (fun q => q.1) hm).symm
      rw [e9] at K
      have e9 : y_qln = qln := (congrArg (fun q => q.2.1) hm).symm
      rw [e9] at K
      have e9 : y_qwy = qwy := (congrArg (fun q => q.2.2) hm).symm
      rw [e9] at K
      exact K 15 ls _ _ dX7_step_15 hP hD hS
set_option maxHeartbeats 4000000 in
set_option maxRecDepth 100000 in
theorem tX7_step (l : Launch) {D : va_G} (sz : Nat) {n : Nat} {a1 : Int32} {a2 : Int32} {a3 : Int32} {r : Int32} {y_qln : (Int32)} {y_qwy : (Nat → Int32)} (hm : mX7_step n qln qwy fra fst sst fwh srim xpi a1 a2 a3 = some (r, y_qln, y_qwy)) : Met l yX7_step (.code yX7_step cX7_step 4 (some .int) :: tw) ({ frames := 14, cells := 0, slots := 0, locals := 385 } : Room) (wrZ D [.ref oX, .int a1, .int a2, .int a3] (wdX cJ cG cI oX oXp oXg oG0 oGa0 oG1 oGa1 oG2 oGa2 oQ oQw oI oR oRh oRm oB oBw oS oSs oF oFr oFs oFc oFw xpi gs0 ga0 gs1 ga1 gs2 ga2 qln qwy ijn rsz rhi rmi bsz bfi bla bar bwi srim sst fw fc fwh fbo fra fst fco fro) [(cI, .int), (cJ, .long), (cG, .object "WornShapes$Program")] tS tA sz) (va_Qi (fun q (_ : Unit) => q = r) (fun (_ : Unit) (t : State) => va_P D vwCl (wdX cJ cG cI oX oXp oXg oG0 oGa0 oG1 oGa1 oG2 oGa2 oQ oQw oI oR oRh oRm oB oBw oS oSs oF oFr oFs oFc oFw xpi gs0 ga0 gs1 ga1 gs2 ga2 y_qln y_qwy ijn rsz rhi rmi bsz bfi bla bar bwi srim sst fw fc fwh fbo fra fst fco fro) t.heap ∧ va_K D vwCl [(cI, .int), (cJ, .long), (cG, .object "WornShapes$Program")] t ∧ va_D (va_A (wdX cJ cG cI oX oXp oXg oG0 oGa0 oG1 oGa1 oG2 oGa2 oQ oQw oI oR oRh oRm oB oBw oS oSs oF oFr oFs oFc oFw xpi gs0 ga0 gs1 ga1 gs2 ga2 qln qwy ijn rsz rhi rmi bsz bfi bla bar bwi srim sst fw fc fwh fbo fra fst fco fro) sz) (wdX cJ cG cI oX oXp oXg oG0 oGa0 oG1 oGa1 oG2 oGa2 oQ oQw oI oR oRh oRm oB oBw oS oSs oF oFr oFs oFc oFw xpi gs0 ga0 gs1 ga1 gs2 ga2 y_qln y_qwy ijn rsz rhi rmi bsz bfi bla bar bwi srim sst fw fc fwh fbo fra fst fco fro)) (va_A (wdX cJ cG cI oX oXp oXg oG0 oGa0 oG1 oGa1 oG2 oGa2 oQ oQw oI oR oRh oRm oB oBw oS oSs oF oFr oFs oFc oFw xpi gs0 ga0 gs1 ga1 gs2 ga2 qln qwy ijn rsz rhi rmi bsz bfi bla bar bwi srim sst fw fc fwh fbo fra fst fco fro) sz)) 0 0 (va_A (wdX cJ cG cI oX oXp oXg oG0 oGa0 oG1 oGa1 oG2 oGa2 oQ oQw oI oR oRh oRm oB oBw oS oSs oF oFr oFs oFc oFw xpi gs0 ga0 gs1 ga1 gs2 ga2 qln qwy ijn rsz rhi rmi bsz bfi bla bar bwi srim sst fw fc fwh fbo fra fst fco fro) sz) := by
  refine Met.ofW (cc := cX7_step) (maxL := 4) (ret := (some .int)) (by decide) rfl ?_
  intro p e s m args below meth c s₁ B hml hv
  obtain ⟨rfl, hsz, hP, hK, hD0, hZ⟩ := hv
  have hx := B.exec
  have hb := B.bytes
  have hr := B.returns
  have hts : ∀ w ∈ tw, w.before _ s = true := fun w h => atoms_spec (ws := .code yX7_step cX7_step 4 (some .int) :: tw) B.pre w (List.mem_cons_of_mem _ h)
  have hown : s.vm.findClass RX7 = some m.cls := findClass_of_methodNamed B.named
  have hlocks := B.notSynchronized
  subst hsz
  have hD := hD0.self (sz := s.heap.size)
  have hl := lv_entry ([.ref oX, .int a1, .int a2, .int a3]) (n := 4) (Nat.le_of_ble_eq_true rfl)
  rw [lg_entry_eq]
  generalize (lg_sl ([.ref oX, .int a1, .int a2, .int a3]) ++ List.replicate (4 - (lg_sl ([.ref oX, .int a1, .int a2, .int a3])).length) Slot.unset).toArray = ls at hl ⊢
  refine bX7_step hx hb hml hown hts hK (fun q h => Or.inr h) hZ ⟨Nat.le_of_ble_eq_true rfl, Nat.le_of_ble_eq_true rfl, Nat.zero_le _, Nat.zero_le _⟩ hm ls hl hP hD va_S.rf (fun pc ls H locs hd hP hD hS => ?_)
  exact W.iret hx hb hr (fun t ht hW => ⟨⟨r, (), rfl, rfl, by rw [ht]; exact hP, va_K.moved hW.alike hK, hD⟩, hS.F ht⟩) hS.2.2 hd
set_option maxHeartbeats 4000000 in
set_option maxRecDepth 100000 in
theorem kX7_step {own : String} {cc : ByteArray} {nL idx pc : Nat} {ls : Array Slot} {rest : List Value} {ws wr : va_W} {n : Nat} {a1 : Int32} {a2 : Int32} {a3 : Int32} {r : Int32} {y_qln : (Int32)} {y_qwy : (Nat → Int32)} (fx : CallFix p m c cc nL s args tw own) (hq : Cond.methodLink own idx yX7_step ∈ tw) (isC isR : List Nat) (hC : isC.map (fun i => ws[i]?) = ((wdX cJ cG cI oX oXp oXg oG0 oGa0 oG1 oGa1 oG2 oGa2 oQ oQw oI oR oRh oRm oB oBw oS oSs oF oFr oFs oFc oFw xpi gs0 ga0 gs1 ga1 gs2 ga2 qln qwy ijn rsz rhi rmi bsz bfi bla bar bwi srim sst fw fc fwh fbo fra fst fco fro) : va_W).map some) (hRr : isR.map (fun i => ws[i]?) = wr.map some) (hnC : va_nd isC = true) (hn : va_nd isR = true) (hdis : ∀ i ∈ isR, i ∉ isC) (hK : va_K D vwCl [(cI, .int), (cJ, .long), (cG, .object "WornShapes$Program")] s) (hZ : stZ A tS tA s s.heap) (hm : mX7_step n qln qwy fra fst sst fwh srim xpi a1 a2 a3 = some (r, y_qln, y_qwy)) (hsz : ls.size = nL) (hR : 15 ≤ R.frames ∧ 408 ≤ R.locals ∧ cells ≤ R.cells ∧ slots ≤ R.slots) (hst : (rest.map fun v => v.category).sum ≤ 8) (hd : decode cc pc = .ok (.invokevirtual idx, 3)) (hP : va_P D vwCl ws H) (hD : va_D A ws) (hS : va_S A s.heap H locs) (hA : ∀ q, s.heap.size ≤ q → A q) (kk : ∀ (H : Heap) (locs : List Loc), va_P D vwCl (wr ++ (wdX cJ cG cI oX oXp oXg oG0 oGa0 oG1 oGa1 oG2 oGa2 oQ oQw oI oR oRh oRm oB oBw oS oSs oF oFr oFs oFc oFw xpi gs0 ga0 gs1 ga1 gs2 ga2 y_qln y_qwy ijn rsz rhi rmi bsz bfi bla bar bwi srim sst fw fc fwh fbo fra fst fco fro)) H → va_D A (wr ++ (wdX cJ cG cI oX oXp oXg oG0 oGa0 oG1 oGa1 oG2 oGa2 oQ oQw oI oR oRh oRm oB oBw oS oSs oF oFr oFs oFc oFw xpi gs0 ga0 gs1 ga1 gs2 ga2 y_qln y_qwy ijn rsz rhi rmi bsz bfi bla bar bwi srim sst fw fc fwh fbo fra fst fco fro)) → va_S A s.heap H locs → W p l e R s m args below meth c H locs cells slots Q (F0 m (pc + 3) ls (.int r :: rest))) : W p l e R s m args below meth c H locs cells slots Q (F0 m pc ls (.int a3 :: .int a2 :: .int a1 :: .ref oX :: rest)) := by
  have hPc := va_P.subM hP isC hC
  have hDc := hD.sub isC hnC hC
  have hFc := va_free (wc := (wdX cJ cG cI oX oXp oXg oG0 oGa0 oG1 oGa1 oG2 oGa2 oQ oQw oI oR oRh oRm oB oBw oS oSs oF oFr oFs oFc oFw xpi gs0 ga0 gs1 ga1 gs2 ga2 qln qwy ijn rsz rhi rmi bsz bfi bla bar bwi srim sst fw fc fwh fbo fra fst fco fro)) hD hS hA isC hC
  refine va_calli (va_runV (As := [.int a1, .int a2, .int a3]) (rest := rest) fx (tX7_step l H.size hm) (cwV 3 fx.2.2.2.2 (tw_V hq qw_586 qw_587 qw_288 qw_588) rfl rfl rfl (by decide +kernel) ⟨hR.1, hR.2.1⟩) ⟨wrZ_bl, va_recv hK hPc (ci := 7) (q0 := 0) rfl rfl, wrZ_ok hPc hK hDc (stZ_in hZ hS hFc)⟩ rfl rfl hsz rfl (lv_room hst) hd ⟨hR.2.2.1, hR.2.2.2⟩) hS (fun q _ h => hFc q h) hFc (fun r9 u t H1 locs ht hvm hw hB hz1 hk1 hS => ?_)
  obtain ⟨hP1, hK1, hD1⟩ := hB
  rw [ht] at hP1
  rw [hw]
  obtain ⟨hP2, hD2⟩ := va_join (wr := wr) (w1 := (wdX cJ cG cI oX oXp oXg oG0 oGa0 oG1 oGa1 oG2 oGa2 oQ oQw oI oR oRh oRm oB oBw oS oSs oF oFr oFs oFc oFw xpi gs0 ga0 gs1 ga1 gs2 ga2 y_qln y_qwy ijn rsz rhi rmi bsz bfi bla bar bwi srim sst fw fc fwh fbo fra fst fco fro)) hP hD isC isR hC hRr hn hdis hk1 hFc hP1 hD1
  exact kk H1 locs hP2 hD2 hS
end
