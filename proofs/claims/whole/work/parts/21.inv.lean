/-! the bits of a long; the field's tables; what both sides hold in common -/
def bt64 (x : Int64) (i : Nat) : Bool := x.toBitVec.getLsbD i
/-- step s from cell i stays in the field of w by h -/
def stp (w h i s : Nat) : Prop := 1 ≤ i % w + s % 3 ∧ i % w + s % 3 ≤ w ∧ 1 ≤ i / w + s / 3 ∧ i / w + s / 3 ≤ h
def edg (w h i : Nat) : Prop := i % w = 0 ∨ i % w = w - 1 ∨ i / w = 0 ∨ i / w = h - 1
def FOK (w h : Nat) (fw fc : Int32) (fwh fbo : Int64) (fra : Nat → Int32) (fst : Nat → Int64) (fco fro : Nat → Int32) : Prop :=
  fw = nI w ∧ fc = nI (w * h) ∧ (∀ i, bt64 fwh i = true ↔ i < w * h) ∧ (∀ i, bt64 fbo i = true ↔ (i < w * h ∧ edg w h i)) ∧
  (∀ s, s < 9 → fra s = Int32.ofInt (((s / 3 : Nat) : Int) * w + ((s % 3 : Nat) : Int) - w - 1)) ∧
  (∀ s, s < 9 → ∀ i, bt64 (fst s) i = true ↔ (i < w * h ∧ stp w h i s)) ∧
  (∀ i, i < w * h → fco i = nI (i % w) ∧ fro i = nI (i / w))
def PicOK (w h : Nat) (xpi mpi : Nat → Int64) : Prop := ∀ i, i < 5 → xpi i = mpi i ∧ ∀ j, bt64 (mpi i) j = true → j < w * h
def StaOK (sst mst : Nat → Int32) : Prop := ∀ i, i < 4 → sst i = mst i ∧ ∃ k, k < 512 ∧ mst i = nI k
def isA (v : Int32) : Prop := ∃ a : Nat, v = nI a ∧ (a = 40 ∨ (a < 40 ∧ a % 10 < 4))
def PrgOK (gs0 gs1 gs2 : Int32) (ga0 ga1 ga2 : Nat → Int32) (mam mac : Nat → Int32) : Prop := ∃ z : Nat → Nat, (∀ j, j < 3 → z j ≤ 8 ∧ mam j = nI (z j)) ∧ (gs0 = nI (z 0) ∧ gs1 = nI (z 1) ∧ gs2 = nI (z 2)) ∧
  (∀ k, k < z 0 → ga0 k = mac k ∧ isA (mac k)) ∧ (∀ k, k < z 1 → ga1 k = mac (8 + k) ∧ isA (mac (8 + k))) ∧ (∀ k, k < z 2 → ga2 k = mac (16 + k) ∧ isA (mac (16 + k)))
def PaiOK (rsz mpn : Int32) (rhi rmi mhi mmi : Nat → Int32) : Prop := ∃ z : Nat, z ≤ 8 ∧ rsz = nI z ∧ mpn = nI z ∧ ∀ k, k < z → rhi k = mhi k ∧ rmi k = mmi k ∧ (∃ a, a < 4 ∧ mhi k = nI a) ∧ (∃ a, a < 4 ∧ mmi k = nI a)
def Inv (fw : Int32) (fc : Int32) (fwh : Int64) (fbo : Int64) (fra : Nat → Int32) (fst : Nat → Int64) (fco : Nat → Int32) (fro : Nat → Int32) (srim : Int32) (sst : Nat → Int32) (gs0 : Int32) (gs1 : Int32) (gs2 : Int32) (ga0 : Nat → Int32) (ga1 : Nat → Int32) (ga2 : Nat → Int32) (ijn : Int32) (rsz : Int32) (rhi : Nat → Int32) (rmi : Nat → Int32) (xpi : Nat → Int64) (mw : Int32) (mt : Int32) (mrim : Int32) (mjn : Int32) (mpn : Int32) (mpi : Nat → Int64) (mst : Nat → Int32) (mam : Nat → Int32) (mac : Nat → Int32) (mhi : Nat → Int32) (mmi : Nat → Int32) : Prop := ∃ w h : Nat, (2 ≤ w ∧ w ≤ 7 ∧ 2 ≤ h ∧ h ≤ 7) ∧ mw = nI w ∧ mt = nI h ∧ FOK w h fw fc fwh fbo fra fst fco fro ∧ PicOK w h xpi mpi ∧ StaOK sst mst ∧ (srim = mrim ∧ (mrim = 0 ∨ mrim = 1)) ∧ (ijn = mjn ∧ (mjn = 4 ∨ mjn = 8)) ∧ PrgOK gs0 gs1 gs2 ga0 ga1 ga2 mam mac ∧ PaiOK rsz mpn rhi rmi mhi mmi
