section
/-- a private method of a class that the tables say can be made, by its rows of tables_1 -/
def lw_okq (q : MethodName × Nat) : Prop := (q.1.cls ≠ "java/lang/invoke/MethodHandle" ∧ q.1.cls ≠ "java/lang/invoke/VarHandle") ∧ Cond.instantiable q.1.cls q.2 ∈ tables_1 ∧ Cond.privateMethod q.1 ∈ tables_1 ∧ Cond.instanceMethod q.1 ∈ tables_1
theorem lw_p0 : lw_okq (⟨"WornShapes$Field", "layStep", "(II)V"⟩, 8) := ⟨⟨by decide +kernel, by decide +kernel⟩, List.mem_of_getElem? (i := 22) (by decide +kernel), List.mem_of_getElem? (i := 32) (by decide +kernel), List.mem_of_getElem? (i := 33) (by decide +kernel)⟩
theorem lw_p1 : lw_okq (⟨"WornShapes", "bitAt", "(II)I"⟩, 8) := ⟨⟨by decide +kernel, by decide +kernel⟩, List.mem_of_getElem? (i := 14) (by decide +kernel), List.mem_of_getElem? (i := 234) (by decide +kernel), List.mem_of_getElem? (i := 235) (by decide +kernel)⟩
theorem lw_p2 : lw_okq (⟨"WornShapes", "put", "(IJZ)V"⟩, 8) := ⟨⟨by decide +kernel, by decide +kernel⟩, List.mem_of_getElem? (i := 14) (by decide +kernel), List.mem_of_getElem? (i := 238) (by decide +kernel), List.mem_of_getElem? (i := 239) (by decide +kernel)⟩
theorem lw_p3 : lw_okq (⟨"WornShapes", "replace", "(IJ)I"⟩, 8) := ⟨⟨by decide +kernel, by decide +kernel⟩, List.mem_of_getElem? (i := 14) (by decide +kernel), List.mem_of_getElem? (i := 280) (by decide +kernel), List.mem_of_getElem? (i := 281) (by decide +kernel)⟩
theorem lw_p4 : lw_okq (⟨"WornShapes$Stamps", "grownBy", "(JI)J"⟩, 3) := ⟨⟨by decide +kernel, by decide +kernel⟩, List.mem_of_getElem? (i := 70) (by decide +kernel), List.mem_of_getElem? (i := 299) (by decide +kernel), List.mem_of_getElem? (i := 300) (by decide +kernel)⟩
theorem lw_p5 : lw_okq (⟨"WornShapes$Pieces", "howManyBy", "(IJ)I"⟩, 2) := ⟨⟨by decide +kernel, by decide +kernel⟩, List.mem_of_getElem? (i := 125) (by decide +kernel), List.mem_of_getElem? (i := 382) (by decide +kernel), List.mem_of_getElem? (i := 383) (by decide +kernel)⟩
theorem lw_p6 : lw_okq (⟨"WornShapes$Pieces", "spread", "(JJI)J"⟩, 2) := ⟨⟨by decide +kernel, by decide +kernel⟩, List.mem_of_getElem? (i := 125) (by decide +kernel), List.mem_of_getElem? (i := 386) (by decide +kernel), List.mem_of_getElem? (i := 387) (by decide +kernel)⟩
theorem lw_p7 : lw_okq (⟨"WornShapes$Pieces", "otherJoin", "()I"⟩, 2) := ⟨⟨by decide +kernel, by decide +kernel⟩, List.mem_of_getElem? (i := 125) (by decide +kernel), List.mem_of_getElem? (i := 396) (by decide +kernel), List.mem_of_getElem? (i := 397) (by decide +kernel)⟩
theorem lw_p8 : lw_okq (⟨"WornShapes$Boxes", "between", "(IIJ)J"⟩, 6) := ⟨⟨by decide +kernel, by decide +kernel⟩, List.mem_of_getElem? (i := 162) (by decide +kernel), List.mem_of_getElem? (i := 487) (by decide +kernel), List.mem_of_getElem? (i := 488) (by decide +kernel)⟩
theorem lw_p9 : lw_okq (⟨"WornShapes$Boxes", "gatherWidest", "(J)V"⟩, 6) := ⟨⟨by decide +kernel, by decide +kernel⟩, List.mem_of_getElem? (i := 162) (by decide +kernel), List.mem_of_getElem? (i := 514) (by decide +kernel), List.mem_of_getElem? (i := 515) (by decide +kernel)⟩
theorem lw_p10 : lw_okq (⟨"WornShapes$Boxes", "hardest", "(J)I"⟩, 6) := ⟨⟨by decide +kernel, by decide +kernel⟩, List.mem_of_getElem? (i := 162) (by decide +kernel), List.mem_of_getElem? (i := 524) (by decide +kernel), List.mem_of_getElem? (i := 525) (by decide +kernel)⟩
theorem lw_p11 : lw_okq (⟨"WornShapes$Boxes", "howManyHave", "(I)I"⟩, 6) := ⟨⟨by decide +kernel, by decide +kernel⟩, List.mem_of_getElem? (i := 162) (by decide +kernel), List.mem_of_getElem? (i := 528) (by decide +kernel), List.mem_of_getElem? (i := 529) (by decide +kernel)⟩
theorem lw_p12 : lw_okq (⟨"WornShapesModel", "isCell", "(I)Z"⟩, 19) := ⟨⟨by decide +kernel, by decide +kernel⟩, List.mem_of_getElem? (i := 540) (by decide +kernel), List.mem_of_getElem? (i := 621) (by decide +kernel), List.mem_of_getElem? (i := 622) (by decide +kernel)⟩
theorem lw_p13 : lw_okq (⟨"WornShapesModel", "cells", "()I"⟩, 19) := ⟨⟨by decide +kernel, by decide +kernel⟩, List.mem_of_getElem? (i := 540) (by decide +kernel), List.mem_of_getElem? (i := 625) (by decide +kernel), List.mem_of_getElem? (i := 626) (by decide +kernel)⟩
theorem lw_p14 : lw_okq (⟨"WornShapesModel", "boxOf", "(II)J"⟩, 19) := ⟨⟨by decide +kernel, by decide +kernel⟩, List.mem_of_getElem? (i := 540) (by decide +kernel), List.mem_of_getElem? (i := 637) (by decide +kernel), List.mem_of_getElem? (i := 638) (by decide +kernel)⟩
theorem lw_p15 : lw_okq (⟨"WornShapesModel", "acted", "(JI)J"⟩, 19) := ⟨⟨by decide +kernel, by decide +kernel⟩, List.mem_of_getElem? (i := 540) (by decide +kernel), List.mem_of_getElem? (i := 674) (by decide +kernel), List.mem_of_getElem? (i := 675) (by decide +kernel)⟩
def lw_privs_1 : List (MethodName × Nat) := [(⟨"WornShapes$Field", "layStep", "(II)V"⟩, 8), (⟨"WornShapes", "bitAt", "(II)I"⟩, 8), (⟨"WornShapes", "put", "(IJZ)V"⟩, 8), (⟨"WornShapes", "replace", "(IJ)I"⟩, 8), (⟨"WornShapes$Stamps", "grownBy", "(JI)J"⟩, 3), (⟨"WornShapes$Pieces", "howManyBy", "(IJ)I"⟩, 2), (⟨"WornShapes$Pieces", "spread", "(JJI)J"⟩, 2), (⟨"WornShapes$Pieces", "otherJoin", "()I"⟩, 2), (⟨"WornShapes$Boxes", "between", "(IIJ)J"⟩, 6), (⟨"WornShapes$Boxes", "gatherWidest", "(J)V"⟩, 6), (⟨"WornShapes$Boxes", "hardest", "(J)I"⟩, 6), (⟨"WornShapes$Boxes", "howManyHave", "(I)I"⟩, 6), (⟨"WornShapesModel", "isCell", "(I)Z"⟩, 19), (⟨"WornShapesModel", "cells", "()I"⟩, 19), (⟨"WornShapesModel", "boxOf", "(II)J"⟩, 19), (⟨"WornShapesModel", "acted", "(JI)J"⟩, 19)]
theorem lw_r1 : ∀ q ∈ lw_privs_1, lw_okq q := List.forall_mem_cons.mpr ⟨lw_p0, List.forall_mem_cons.mpr ⟨lw_p1, List.forall_mem_cons.mpr ⟨lw_p2, List.forall_mem_cons.mpr ⟨lw_p3, List.forall_mem_cons.mpr ⟨lw_p4, List.forall_mem_cons.mpr ⟨lw_p5, List.forall_mem_cons.mpr ⟨lw_p6, List.forall_mem_cons.mpr ⟨lw_p7, List.forall_mem_cons.mpr ⟨lw_p8, List.forall_mem_cons.mpr ⟨lw_p9, List.forall_mem_cons.mpr ⟨lw_p10, List.forall_mem_cons.mpr ⟨lw_p11, List.forall_mem_cons.mpr ⟨lw_p12, List.forall_mem_cons.mpr ⟨lw_p13, List.forall_mem_cons.mpr ⟨lw_p14, List.forall_mem_cons.mpr ⟨lw_p15, fun _ h => absurd h List.not_mem_nil⟩⟩⟩⟩⟩⟩⟩⟩⟩⟩⟩⟩⟩⟩⟩⟩
theorem lw_p16 : lw_okq (⟨"WornShapesModel", "grown", "(JI)J"⟩, 19) := ⟨⟨by decide +kernel, by decide +kernel⟩, List.mem_of_getElem? (i := 540) (by decide +kernel), List.mem_of_getElem? (i := 678) (by decide +kernel), List.mem_of_getElem? (i := 679) (by decide +kernel)⟩
theorem lw_p17 : lw_okq (⟨"WornShapesModel", "stepFrom", "(II)I"⟩, 19) := ⟨⟨by decide +kernel, by decide +kernel⟩, List.mem_of_getElem? (i := 540) (by decide +kernel), List.mem_of_getElem? (i := 682) (by decide +kernel), List.mem_of_getElem? (i := 683) (by decide +kernel)⟩
theorem lw_p18 : lw_okq (⟨"WornShapesModel", "worn", "(JI)J"⟩, 19) := ⟨⟨by decide +kernel, by decide +kernel⟩, List.mem_of_getElem? (i := 540) (by decide +kernel), List.mem_of_getElem? (i := 686) (by decide +kernel), List.mem_of_getElem? (i := 687) (by decide +kernel)⟩
theorem lw_p19 : lw_okq (⟨"WornShapesModel", "all", "()J"⟩, 19) := ⟨⟨by decide +kernel, by decide +kernel⟩, List.mem_of_getElem? (i := 540) (by decide +kernel), List.mem_of_getElem? (i := 690) (by decide +kernel), List.mem_of_getElem? (i := 691) (by decide +kernel)⟩
theorem lw_p20 : lw_okq (⟨"WornShapesModel", "ran", "(JI)J"⟩, 19) := ⟨⟨by decide +kernel, by decide +kernel⟩, List.mem_of_getElem? (i := 540) (by decide +kernel), List.mem_of_getElem? (i := 713) (by decide +kernel), List.mem_of_getElem? (i := 714) (by decide +kernel)⟩
theorem lw_p21 : lw_okq (⟨"WornShapesModel", "shortestOf", "(II)I"⟩, 19) := ⟨⟨by decide +kernel, by decide +kernel⟩, List.mem_of_getElem? (i := 540) (by decide +kernel), List.mem_of_getElem? (i := 721) (by decide +kernel), List.mem_of_getElem? (i := 722) (by decide +kernel)⟩
theorem lw_p22 : lw_okq (⟨"WornShapesModel", "findRow", "(JJI)Z"⟩, 19) := ⟨⟨by decide +kernel, by decide +kernel⟩, List.mem_of_getElem? (i := 540) (by decide +kernel), List.mem_of_getElem? (i := 725) (by decide +kernel), List.mem_of_getElem? (i := 726) (by decide +kernel)⟩
theorem lw_p23 : lw_okq (⟨"WornShapesModel", "holesOf", "(J)J"⟩, 19) := ⟨⟨by decide +kernel, by decide +kernel⟩, List.mem_of_getElem? (i := 540) (by decide +kernel), List.mem_of_getElem? (i := 744) (by decide +kernel), List.mem_of_getElem? (i := 745) (by decide +kernel)⟩
theorem lw_p24 : lw_okq (⟨"WornShapesModel", "pieceOf", "(JII)J"⟩, 19) := ⟨⟨by decide +kernel, by decide +kernel⟩, List.mem_of_getElem? (i := 540) (by decide +kernel), List.mem_of_getElem? (i := 751) (by decide +kernel), List.mem_of_getElem? (i := 752) (by decide +kernel)⟩
theorem lw_p25 : lw_okq (⟨"WornShapesModel", "edgeCells", "()J"⟩, 19) := ⟨⟨by decide +kernel, by decide +kernel⟩, List.mem_of_getElem? (i := 540) (by decide +kernel), List.mem_of_getElem? (i := 755) (by decide +kernel), List.mem_of_getElem? (i := 756) (by decide +kernel)⟩
theorem lw_p26 : lw_okq (⟨"WornShapesModel", "piecesOf", "(J)I"⟩, 19) := ⟨⟨by decide +kernel, by decide +kernel⟩, List.mem_of_getElem? (i := 540) (by decide +kernel), List.mem_of_getElem? (i := 759) (by decide +kernel), List.mem_of_getElem? (i := 760) (by decide +kernel)⟩
theorem lw_p27 : lw_okq (⟨"WornShapesModel", "edgeOf", "(J)I"⟩, 19) := ⟨⟨by decide +kernel, by decide +kernel⟩, List.mem_of_getElem? (i := 540) (by decide +kernel), List.mem_of_getElem? (i := 763) (by decide +kernel), List.mem_of_getElem? (i := 764) (by decide +kernel)⟩
theorem lw_p28 : lw_okq (⟨"WornShapesModel", "hitsOf", "(JI)J"⟩, 19) := ⟨⟨by decide +kernel, by decide +kernel⟩, List.mem_of_getElem? (i := 540) (by decide +kernel), List.mem_of_getElem? (i := 791) (by decide +kernel), List.mem_of_getElem? (i := 792) (by decide +kernel)⟩
theorem lw_p29 : lw_okq (⟨"WornShapesModel", "layBoxes", "(J)V"⟩, 19) := ⟨⟨by decide +kernel, by decide +kernel⟩, List.mem_of_getElem? (i := 540) (by decide +kernel), List.mem_of_getElem? (i := 815) (by decide +kernel), List.mem_of_getElem? (i := 816) (by decide +kernel)⟩
theorem lw_p30 : lw_okq (⟨"WornShapesModel", "isAllIn", "(JII)Z"⟩, 19) := ⟨⟨by decide +kernel, by decide +kernel⟩, List.mem_of_getElem? (i := 540) (by decide +kernel), List.mem_of_getElem? (i := 819) (by decide +kernel), List.mem_of_getElem? (i := 820) (by decide +kernel)⟩
theorem lw_p31 : lw_okq (⟨"WornShapesModel", "isWithin", "(JII)Z"⟩, 19) := ⟨⟨by decide +kernel, by decide +kernel⟩, List.mem_of_getElem? (i := 540) (by decide +kernel), List.mem_of_getElem? (i := 823) (by decide +kernel), List.mem_of_getElem? (i := 824) (by decide +kernel)⟩
def lw_privs_2 : List (MethodName × Nat) := [(⟨"WornShapesModel", "grown", "(JI)J"⟩, 19), (⟨"WornShapesModel", "stepFrom", "(II)I"⟩, 19), (⟨"WornShapesModel", "worn", "(JI)J"⟩, 19), (⟨"WornShapesModel", "all", "()J"⟩, 19), (⟨"WornShapesModel", "ran", "(JI)J"⟩, 19), (⟨"WornShapesModel", "shortestOf", "(II)I"⟩, 19), (⟨"WornShapesModel", "findRow", "(JJI)Z"⟩, 19), (⟨"WornShapesModel", "holesOf", "(J)J"⟩, 19), (⟨"WornShapesModel", "pieceOf", "(JII)J"⟩, 19), (⟨"WornShapesModel", "edgeCells", "()J"⟩, 19), (⟨"WornShapesModel", "piecesOf", "(J)I"⟩, 19), (⟨"WornShapesModel", "edgeOf", "(J)I"⟩, 19), (⟨"WornShapesModel", "hitsOf", "(JI)J"⟩, 19), (⟨"WornShapesModel", "layBoxes", "(J)V"⟩, 19), (⟨"WornShapesModel", "isAllIn", "(JII)Z"⟩, 19), (⟨"WornShapesModel", "isWithin", "(JII)Z"⟩, 19)]
theorem lw_r2 : ∀ q ∈ lw_privs_2, lw_okq q := List.forall_mem_cons.mpr ⟨lw_p16, List.forall_mem_cons.mpr ⟨lw_p17, List.forall_mem_cons.mpr ⟨lw_p18, List.forall_mem_cons.mpr ⟨lw_p19, List.forall_mem_cons.mpr ⟨lw_p20, List.forall_mem_cons.mpr ⟨lw_p21, List.forall_mem_cons.mpr ⟨lw_p22, List.forall_mem_cons.mpr ⟨lw_p23, List.forall_mem_cons.mpr ⟨lw_p24, List.forall_mem_cons.mpr ⟨lw_p25, List.forall_mem_cons.mpr ⟨lw_p26, List.forall_mem_cons.mpr ⟨lw_p27, List.forall_mem_cons.mpr ⟨lw_p28, List.forall_mem_cons.mpr ⟨lw_p29, List.forall_mem_cons.mpr ⟨lw_p30, List.forall_mem_cons.mpr ⟨lw_p31, fun _ h => absurd h List.not_mem_nil⟩⟩⟩⟩⟩⟩⟩⟩⟩⟩⟩⟩⟩⟩⟩⟩
theorem lw_p32 : lw_okq (⟨"WornShapesModel", "isCoveredBy", "(I)Z"⟩, 19) := ⟨⟨by decide +kernel, by decide +kernel⟩, List.mem_of_getElem? (i := 540) (by decide +kernel), List.mem_of_getElem? (i := 838) (by decide +kernel), List.mem_of_getElem? (i := 839) (by decide +kernel)⟩
def lw_privs_3 : List (MethodName × Nat) := [(⟨"WornShapesModel", "isCoveredBy", "(I)Z"⟩, 19)]
theorem lw_r3 : ∀ q ∈ lw_privs_3, lw_okq q := List.forall_mem_cons.mpr ⟨lw_p32, fun _ h => absurd h List.not_mem_nil⟩
def lw_privs : List (MethodName × Nat) := lw_privs_1 ++ (lw_privs_2 ++ (lw_privs_3))
def lw_tbl : List Cond := k2_sels lw_privs ++ tables_1
theorem lw_privs_ok : ∀ q ∈ lw_privs, lw_okq q := by
  show ∀ q ∈ lw_privs_1 ++ (lw_privs_2 ++ (lw_privs_3)), lw_okq q
  exact List.forall_mem_append.mpr ⟨lw_r1, List.forall_mem_append.mpr ⟨lw_r2, lw_r3⟩⟩
end
section
def RX0 : String := "WornShapes$Boxes"
def TX0 : u_T := fun k => match k with
  | 0 => ("WornShapes$Boxes", "plane", "LWornShapes$Field;", true)
  | 1 => ("WornShapes$Boxes", "widest", "[J", true)
  | 2 => ("WornShapes$Boxes", "size", "I", false)
  | 3 => ("WornShapes$Boxes", "first", "I", false)
  | 4 => ("WornShapes$Boxes", "last", "I", false)
  | _ => ("WornShapes$Boxes", "area", "I", false)
def tyX0 : Nat → FieldType := fun k => match k with
  | 0 => .object "WornShapes$Field"
  | 1 => .array .long
  | 2 => .int
  | 3 => .int
  | 4 => .int
  | _ => .int
abbrev wsX00 : List Cond := u_ws RX0 TX0 6
theorem nmX0 : ∀ a, a < 6 → ∀ b, b < 6 → a ≠ b → (TX0 a).2.1 ≠ (TX0 b).2.1 := by decide +kernel
theorem tyX0_ok : ∀ k, k < 6 → parseFieldDescriptor (TX0 k).2.2.1 = some (tyX0 k) := by decide +kernel
abbrev cX0_init : ByteArray := prog_2_method_1_code
def yX0_init : MethodName := ⟨RX0, "<init>", "(LWornShapes$Field;)V"⟩
abbrev cX0_between : ByteArray := prog_2_method_2_code
def yX0_between : MethodName := ⟨RX0, "between", "(IIJ)J"⟩
abbrev cX0_howMany : ByteArray := prog_2_method_3_code
def yX0_howMany : MethodName := ⟨RX0, "howMany", "(JZ)I"⟩
abbrev cX0_howManyWidestAt : ByteArray := prog_2_method_4_code
def yX0_howManyWidestAt : MethodName := ⟨RX0, "howManyWidestAt", "(JI)I"⟩
abbrev cX0_findGreatest : ByteArray := prog_2_method_5_code
def yX0_findGreatest : MethodName := ⟨RX0, "findGreatest", "(J)Z"⟩
abbrev cX0_fewestOver : ByteArray := prog_2_method_6_code
def yX0_fewestOver : MethodName := ⟨RX0, "fewestOver", "(J)I"⟩
abbrev cX0_gatherWidest : ByteArray := prog_2_method_7_code
def yX0_gatherWidest : MethodName := ⟨RX0, "gatherWidest", "(J)V"⟩
abbrev cX0_fewest : ByteArray := prog_2_method_8_code
def yX0_fewest : MethodName := ⟨RX0, "fewest", "(LWornShapes$Boxes;JII)I"⟩
abbrev cX0_hardest : ByteArray := prog_2_method_9_code
def yX0_hardest : MethodName := ⟨RX0, "hardest", "(J)I"⟩
abbrev cX0_howManyHave : ByteArray := prog_2_method_10_code
def yX0_howManyHave : MethodName := ⟨RX0, "howManyHave", "(I)I"⟩
def RX1 : String := "WornShapes$Field"
def TX1 : u_T := fun k => match k with
  | 0 => ("WornShapes$Field", "width", "I", false)
  | 1 => ("WornShapes$Field", "cells", "I", false)
  | 2 => ("WornShapes$Field", "whole", "J", false)
  | 3 => ("WornShapes$Field", "border", "J", false)
  | 4 => ("WornShapes$Field", "raises", "[I", true)
  | 5 => ("WornShapes$Field", "starts", "[J", true)
  | 6 => ("WornShapes$Field", "columns", "[I", true)
  | _ => ("WornShapes$Field", "rows", "[I", true)
def tyX1 : Nat → FieldType := fun k => match k with
  | 0 => .int
  | 1 => .int
  | 2 => .long
  | 3 => .long
  | 4 => .array .int
  | 5 => .array .long
  | 6 => .array .int
  | _ => .array .int
abbrev wsX10 : List Cond := u_ws RX1 TX1 8
theorem nmX1 : ∀ a, a < 8 → ∀ b, b < 8 → a ≠ b → (TX1 a).2.1 ≠ (TX1 b).2.1 := by decide +kernel
theorem tyX1_ok : ∀ k, k < 8 → parseFieldDescriptor (TX1 k).2.2.1 = some (tyX1 k) := by decide +kernel
abbrev cX1_init : ByteArray := prog_3_method_1_code
def yX1_init : MethodName := ⟨RX1, "<init>", "(II)V"⟩
abbrev cX1_lay : ByteArray := prog_3_method_2_code
def yX1_lay : MethodName := ⟨RX1, "lay", "(II)V"⟩
abbrev cX1_layStep : ByteArray := prog_3_method_3_code
def yX1_layStep : MethodName := ⟨RX1, "layStep", "(II)V"⟩
abbrev cX1_isCell : ByteArray := prog_3_method_4_code
def yX1_isCell : MethodName := ⟨RX1, "isCell", "(I)Z"⟩
abbrev cX1_ahead : ByteArray := prog_3_method_5_code
def yX1_ahead : MethodName := ⟨RX1, "ahead", "(JI)J"⟩
abbrev cX1_behind : ByteArray := prog_3_method_6_code
def yX1_behind : MethodName := ⟨RX1, "behind", "(JI)J"⟩
abbrev cX1_grown : ByteArray := prog_3_method_7_code
def yX1_grown : MethodName := ⟨RX1, "grown", "(JI)J"⟩
abbrev cX1_worn : ByteArray := prog_3_method_8_code
def yX1_worn : MethodName := ⟨RX1, "worn", "(JIZ)J"⟩
abbrev cX1_sidesOf : ByteArray := prog_3_method_9_code
def yX1_sidesOf : MethodName := ⟨RX1, "sidesOf", "(J)I"⟩
abbrev cX1_rectangle : ByteArray := prog_3_method_10_code
def yX1_rectangle : MethodName := ⟨RX1, "rectangle", "(II)J"⟩
abbrev cX1_canWiden : ByteArray := prog_3_method_11_code
def yX1_canWiden : MethodName := ⟨RX1, "canWiden", "(JJ)Z"⟩
def RX2 : String := "WornShapes$Pairs"
def TX2 : u_T := fun k => match k with
  | 0 => ("WornShapes$Pairs", "plane", "LWornShapes$Field;", true)
  | 1 => ("WornShapes$Pairs", "stamps", "LWornShapes$Stamps;", true)
  | 2 => ("WornShapes$Pairs", "hit", "[I", true)
  | 3 => ("WornShapes$Pairs", "miss", "[I", true)
  | _ => ("WornShapes$Pairs", "size", "I", false)
def tyX2 : Nat → FieldType := fun k => match k with
  | 0 => .object "WornShapes$Field"
  | 1 => .object "WornShapes$Stamps"
  | 2 => .array .int
  | 3 => .array .int
  | _ => .int
abbrev wsX20 : List Cond := u_ws RX2 TX2 5
theorem nmX2 : ∀ a, a < 5 → ∀ b, b < 5 → a ≠ b → (TX2 a).2.1 ≠ (TX2 b).2.1 := by decide +kernel
theorem tyX2_ok : ∀ k, k < 5 → parseFieldDescriptor (TX2 k).2.2.1 = some (tyX2 k) := by decide +kernel
abbrev cX2_init : ByteArray := prog_4_method_1_code
def yX2_init : MethodName := ⟨RX2, "<init>", "(LWornShapes$Field;LWornShapes$Stamps;)V"⟩
abbrev cX2_append : ByteArray := prog_4_method_2_code
def yX2_append : MethodName := ⟨RX2, "append", "(II)Z"⟩
abbrev cX2_hitIn : ByteArray := prog_4_method_3_code
def yX2_hitIn : MethodName := ⟨RX2, "hitIn", "(JI)J"⟩
abbrev cX2_afterRound : ByteArray := prog_4_method_4_code
def yX2_afterRound : MethodName := ⟨RX2, "afterRound", "(J)J"⟩
def RX3 : String := "WornShapes$Pieces"
def TX3 : u_T := fun k => match k with
  | 0 => ("WornShapes$Pieces", "plane", "LWornShapes$Field;", true)
  | _ => ("WornShapes$Pieces", "join", "I", false)
def tyX3 : Nat → FieldType := fun k => match k with
  | 0 => .object "WornShapes$Field"
  | _ => .int
abbrev wsX30 : List Cond := u_ws RX3 TX3 2
theorem nmX3 : ∀ a, a < 2 → ∀ b, b < 2 → a ≠ b → (TX3 a).2.1 ≠ (TX3 b).2.1 := by decide +kernel
theorem tyX3_ok : ∀ k, k < 2 → parseFieldDescriptor (TX3 k).2.2.1 = some (tyX3 k) := by decide +kernel
abbrev cX3_init : ByteArray := prog_5_method_1_code
def yX3_init : MethodName := ⟨RX3, "<init>", "(LWornShapes$Field;)V"⟩
abbrev cX3_around : ByteArray := prog_5_method_2_code
def yX3_around : MethodName := ⟨RX3, "around", "(IJ)J"⟩
abbrev cX3_howMany : ByteArray := prog_5_method_3_code
def yX3_howMany : MethodName := ⟨RX3, "howMany", "(J)I"⟩
abbrev cX3_howManyHoles : ByteArray := prog_5_method_4_code
def yX3_howManyHoles : MethodName := ⟨RX3, "howManyHoles", "(J)I"⟩
abbrev cX3_holesOf : ByteArray := prog_5_method_5_code
def yX3_holesOf : MethodName := ⟨RX3, "holesOf", "(J)J"⟩
abbrev cX3_howManyBy : ByteArray := prog_5_method_6_code
def yX3_howManyBy : MethodName := ⟨RX3, "howManyBy", "(IJ)I"⟩
abbrev cX3_otherJoin : ByteArray := prog_5_method_7_code
def yX3_otherJoin : MethodName := ⟨RX3, "otherJoin", "()I"⟩
abbrev cX3_spread : ByteArray := prog_5_method_8_code
def yX3_spread : MethodName := ⟨RX3, "spread", "(JJI)J"⟩
def RX4 : String := "WornShapes$Program"
def TX4 : u_T := fun k => match k with
  | 0 => ("WornShapes$Program", "stamps", "LWornShapes$Stamps;", true)
  | 1 => ("WornShapes$Program", "acts", "[I", true)
  | _ => ("WornShapes$Program", "size", "I", false)
def tyX4 : Nat → FieldType := fun k => match k with
  | 0 => .object "WornShapes$Stamps"
  | 1 => .array .int
  | _ => .int
abbrev wsX40 : List Cond := u_ws RX4 TX4 3
theorem nmX4 : ∀ a, a < 3 → ∀ b, b < 3 → a ≠ b → (TX4 a).2.1 ≠ (TX4 b).2.1 := by decide +kernel
theorem tyX4_ok : ∀ k, k < 3 → parseFieldDescriptor (TX4 k).2.2.1 = some (tyX4 k) := by decide +kernel
abbrev cX4_init : ByteArray := prog_6_method_1_code
def yX4_init : MethodName := ⟨RX4, "<init>", "(LWornShapes$Stamps;)V"⟩
abbrev cX4_append : ByteArray := prog_6_method_2_code
def yX4_append : MethodName := ⟨RX4, "append", "(I)Z"⟩
abbrev cX4_madeOf : ByteArray := prog_6_method_3_code
def yX4_madeOf : MethodName := ⟨RX4, "madeOf", "(J)J"⟩
def RX5 : String := "WornShapes$Search"
def TX5 : u_T := fun k => match k with
  | 0 => ("WornShapes$Search", "stamps", "LWornShapes$Stamps;", true)
  | 1 => ("WornShapes$Search", "way", "[I", true)
  | _ => ("WornShapes$Search", "length", "I", false)
def tyX5 : Nat → FieldType := fun k => match k with
  | 0 => .object "WornShapes$Stamps"
  | 1 => .array .int
  | _ => .int
abbrev wsX50 : List Cond := u_ws RX5 TX5 3
theorem nmX5 : ∀ a, a < 3 → ∀ b, b < 3 → a ≠ b → (TX5 a).2.1 ≠ (TX5 b).2.1 := by decide +kernel
theorem tyX5_ok : ∀ k, k < 3 → parseFieldDescriptor (TX5 k).2.2.1 = some (tyX5 k) := by decide +kernel
abbrev cX5_init : ByteArray := prog_7_method_1_code
def yX5_init : MethodName := ⟨RX5, "<init>", "(LWornShapes$Stamps;)V"⟩
abbrev cX5_find : ByteArray := prog_7_method_2_code
def yX5_find : MethodName := ⟨RX5, "find", "(JJ)Z"⟩
abbrev cX5_leads : ByteArray := prog_7_method_3_code
def yX5_leads : MethodName := ⟨RX5, "leads", "(LWornShapes$Search;JJI)Z"⟩
def RX6 : String := "WornShapes$Stamps"
def TX6 : u_T := fun k => match k with
  | 0 => ("WornShapes$Stamps", "plane", "LWornShapes$Field;", true)
  | 1 => ("WornShapes$Stamps", "steps", "[I", true)
  | _ => ("WornShapes$Stamps", "rim", "Z", false)
def tyX6 : Nat → FieldType := fun k => match k with
  | 0 => .object "WornShapes$Field"
  | 1 => .array .int
  | _ => .boolean
abbrev wsX60 : List Cond := u_ws RX6 TX6 3
theorem nmX6 : ∀ a, a < 3 → ∀ b, b < 3 → a ≠ b → (TX6 a).2.1 ≠ (TX6 b).2.1 := by decide +kernel
theorem tyX6_ok : ∀ k, k < 3 → parseFieldDescriptor (TX6 k).2.2.1 = some (tyX6 k) := by decide +kernel
abbrev cX6_init : ByteArray := prog_8_method_1_code
def yX6_init : MethodName := ⟨RX6, "<init>", "(LWornShapes$Field;)V"⟩
abbrev cX6_isStamp : ByteArray := prog_8_method_2_code
def yX6_isStamp : MethodName := ⟨RX6, "isStamp", "(I)Z"⟩
abbrev cX6_isAct : ByteArray := prog_8_method_3_code
def yX6_isAct : MethodName := ⟨RX6, "isAct", "(I)Z"⟩
abbrev cX6_wornBy : ByteArray := prog_8_method_4_code
def yX6_wornBy : MethodName := ⟨RX6, "wornBy", "(JI)J"⟩
abbrev cX6_grownBy : ByteArray := prog_8_method_5_code
def yX6_grownBy : MethodName := ⟨RX6, "grownBy", "(JI)J"⟩
abbrev cX6_made : ByteArray := prog_8_method_6_code
def yX6_made : MethodName := ⟨RX6, "made", "(JI)J"⟩
def RX7 : String := "WornShapes"
def TX7 : u_T := fun k => match k with
  | 0 => ("WornShapes", "plane", "LWornShapes$Field;", true)
  | 1 => ("WornShapes", "pictures", "[J", true)
  | 2 => ("WornShapes", "stamps", "LWornShapes$Stamps;", true)
  | 3 => ("WornShapes", "programs", "[LWornShapes$Program;", true)
  | 4 => ("WornShapes", "search", "LWornShapes$Search;", true)
  | 5 => ("WornShapes", "pieces", "LWornShapes$Pieces;", true)
  | 6 => ("WornShapes", "pairs", "LWornShapes$Pairs;", true)
  | _ => ("WornShapes", "rooms", "LWornShapes$Boxes;", true)
def tyX7 : Nat → FieldType := fun k => match k with
  | 0 => .object "WornShapes$Field"
  | 1 => .array .long
  | 2 => .object "WornShapes$Stamps"
  | 3 => .array (.object "WornShapes$Program")
  | 4 => .object "WornShapes$Search"
  | 5 => .object "WornShapes$Pieces"
  | 6 => .object "WornShapes$Pairs"
  | _ => .object "WornShapes$Boxes"
abbrev wsX70 : List Cond := u_ws RX7 TX7 8
theorem nmX7 : ∀ a, a < 8 → ∀ b, b < 8 → a ≠ b → (TX7 a).2.1 ≠ (TX7 b).2.1 := by decide +kernel
theorem tyX7_ok : ∀ k, k < 8 → parseFieldDescriptor (TX7 k).2.2.1 = some (tyX7 k) := by decide +kernel
abbrev cX7_init : ByteArray := prog_1_method_1_code
def yX7_init : MethodName := ⟨RX7, "<init>", "()V"⟩
abbrev cX7_field : ByteArray := prog_1_method_2_code
def yX7_field : MethodName := ⟨RX7, "field", "(II)I"⟩
abbrev cX7_ink : ByteArray := prog_1_method_3_code
def yX7_ink : MethodName := ⟨RX7, "ink", "(IIZ)I"⟩
abbrev cX7_box : ByteArray := prog_1_method_4_code
def yX7_box : MethodName := ⟨RX7, "box", "(IIIZ)I"⟩
abbrev cX7_at : ByteArray := prog_1_method_5_code
def yX7_at : MethodName := ⟨RX7, "at", "(II)I"⟩
abbrev cX7_number : ByteArray := prog_1_method_6_code
def yX7_number : MethodName := ⟨RX7, "number", "(I)J"⟩
abbrev cX7_stamp : ByteArray := prog_1_method_7_code
def yX7_stamp : MethodName := ⟨RX7, "stamp", "(II)I"⟩
abbrev cX7_rule : ByteArray := prog_1_method_8_code
def yX7_rule : MethodName := ⟨RX7, "rule", "(II)I"⟩
abbrev cX7_mix : ByteArray := prog_1_method_9_code
def yX7_mix : MethodName := ⟨RX7, "mix", "(IIII)I"⟩
abbrev cX7_act : ByteArray := prog_1_method_10_code
def yX7_act : MethodName := ⟨RX7, "act", "(II)I"⟩
abbrev cX7_would : ByteArray := prog_1_method_11_code
def yX7_would : MethodName := ⟨RX7, "would", "(II)I"⟩
abbrev cX7_add : ByteArray := prog_1_method_12_code
def yX7_add : MethodName := ⟨RX7, "add", "(II)I"⟩
abbrev cX7_clear : ByteArray := prog_1_method_13_code
def yX7_clear : MethodName := ⟨RX7, "clear", "(I)I"⟩
abbrev cX7_run : ByteArray := prog_1_method_14_code
def yX7_run : MethodName := ⟨RX7, "run", "(II)I"⟩
abbrev cX7_shortest : ByteArray := prog_1_method_15_code
def yX7_shortest : MethodName := ⟨RX7, "shortest", "(II)I"⟩
abbrev cX7_step : ByteArray := prog_1_method_16_code
def yX7_step : MethodName := ⟨RX7, "step", "(III)I"⟩
abbrev cX7_differ : ByteArray := prog_1_method_17_code
def yX7_differ : MethodName := ⟨RX7, "differ", "(II)I"⟩
abbrev cX7_count : ByteArray := prog_1_method_18_code
def yX7_count : MethodName := ⟨RX7, "count", "(II)I"⟩
abbrev cX7_piece : ByteArray := prog_1_method_19_code
def yX7_piece : MethodName := ⟨RX7, "piece", "(II)I"⟩
abbrev cX7_keep : ByteArray := prog_1_method_20_code
def yX7_keep : MethodName := ⟨RX7, "keep", "(II)I"⟩
abbrev cX7_fill : ByteArray := prog_1_method_21_code
def yX7_fill : MethodName := ⟨RX7, "fill", "(I)I"⟩
abbrev cX7_pair : ByteArray := prog_1_method_22_code
def yX7_pair : MethodName := ⟨RX7, "pair", "(II)I"⟩
abbrev cX7_forget : ByteArray := prog_1_method_23_code
def yX7_forget : MethodName := ⟨RX7, "forget", "()I"⟩
abbrev cX7_hits : ByteArray := prog_1_method_24_code
def yX7_hits : MethodName := ⟨RX7, "hits", "(II)I"⟩
abbrev cX7_thin : ByteArray := prog_1_method_25_code
def yX7_thin : MethodName := ⟨RX7, "thin", "(I)I"⟩
abbrev cX7_deep : ByteArray := prog_1_method_26_code
def yX7_deep : MethodName := ⟨RX7, "deep", "(III)I"⟩
abbrev cX7_explains : ByteArray := prog_1_method_27_code
def yX7_explains : MethodName := ⟨RX7, "explains", "(II)I"⟩
abbrev cX7_least : ByteArray := prog_1_method_28_code
def yX7_least : MethodName := ⟨RX7, "least", "(II)I"⟩
abbrev cX7_boxes : ByteArray := prog_1_method_29_code
def yX7_boxes : MethodName := ⟨RX7, "boxes", "(IZ)I"⟩
abbrev cX7_greatest : ByteArray := prog_1_method_30_code
def yX7_greatest : MethodName := ⟨RX7, "greatest", "(II)I"⟩
abbrev cX7_covered : ByteArray := prog_1_method_31_code
def yX7_covered : MethodName := ⟨RX7, "covered", "(I)I"⟩
abbrev cX7_alone : ByteArray := prog_1_method_32_code
def yX7_alone : MethodName := ⟨RX7, "alone", "(II)I"⟩
abbrev cX7_isSide : ByteArray := prog_1_method_33_code
def yX7_isSide : MethodName := ⟨RX7, "isSide", "(I)Z"⟩
abbrev cX7_isPicture : ByteArray := prog_1_method_34_code
def yX7_isPicture : MethodName := ⟨RX7, "isPicture", "(I)Z"⟩
abbrev cX7_isProgram : ByteArray := prog_1_method_35_code
def yX7_isProgram : MethodName := ⟨RX7, "isProgram", "(I)Z"⟩
abbrev cX7_mixed : ByteArray := prog_1_method_36_code
def yX7_mixed : MethodName := ⟨RX7, "mixed", "(IJJ)J"⟩
abbrev cX7_bitAt : ByteArray := prog_1_method_37_code
def yX7_bitAt : MethodName := ⟨RX7, "bitAt", "(II)I"⟩
abbrev cX7_put : ByteArray := prog_1_method_38_code
def yX7_put : MethodName := ⟨RX7, "put", "(IJZ)V"⟩
abbrev cX7_replace : ByteArray := prog_1_method_39_code
def yX7_replace : MethodName := ⟨RX7, "replace", "(IJ)I"⟩
def RX8 : String := "WornShapesModel"
def TX8 : u_T := fun k => match k with
  | 0 => ("WornShapesModel", "wide", "I", false)
  | 1 => ("WornShapesModel", "tall", "I", false)
  | 2 => ("WornShapesModel", "pictures", "[J", true)
  | 3 => ("WornShapesModel", "stamps", "[I", true)
  | 4 => ("WornShapesModel", "rim", "I", false)
  | 5 => ("WornShapesModel", "join", "I", false)
  | 6 => ("WornShapesModel", "actMany", "[I", true)
  | 7 => ("WornShapesModel", "acts", "[I", true)
  | 8 => ("WornShapesModel", "row", "[I", true)
  | 9 => ("WornShapesModel", "behind", "[J", true)
  | 10 => ("WornShapesModel", "holeMany", "I", false)
  | 11 => ("WornShapesModel", "pairs", "I", false)
  | 12 => ("WornShapesModel", "hit", "[I", true)
  | 13 => ("WornShapesModel", "miss", "[I", true)
  | 14 => ("WornShapesModel", "boxMany", "I", false)
  | 15 => ("WornShapesModel", "greatMany", "I", false)
  | 16 => ("WornShapesModel", "great", "[J", true)
  | 17 => ("WornShapesModel", "tried", "[I", true)
  | _ => ("WornShapesModel", "left", "[J", true)
def tyX8 : Nat → FieldType := fun k => match k with
  | 0 => .int
  | 1 => .int
  | 2 => .array .long
  | 3 => .array .int
  | 4 => .int
  | 5 => .int
  | 6 => .array .int
  | 7 => .array .int
  | 8 => .array .int
  | 9 => .array .long
  | 10 => .int
  | 11 => .int
  | 12 => .array .int
  | 13 => .array .int
  | 14 => .int
  | 15 => .int
  | 16 => .array .long
  | 17 => .array .int
  | _ => .array .long
abbrev wsX80 : List Cond := u_ws RX8 TX8 19
theorem nmX8 : ∀ a, a < 19 → ∀ b, b < 19 → a ≠ b → (TX8 a).2.1 ≠ (TX8 b).2.1 := by decide +kernel
theorem tyX8_ok : ∀ k, k < 19 → parseFieldDescriptor (TX8 k).2.2.1 = some (tyX8 k) := by decide +kernel
abbrev cX8_init : ByteArray := prog_10_method_1_code
def yX8_init : MethodName := ⟨RX8, "<init>", "()V"⟩
abbrev cX8_in : ByteArray := prog_10_method_3_code
def yX8_in : MethodName := ⟨RX8, "in", "(JJJ)Z"⟩
abbrev cX8_cells : ByteArray := prog_10_method_4_code
def yX8_cells : MethodName := ⟨RX8, "cells", "()I"⟩
abbrev cX8_all : ByteArray := prog_10_method_5_code
def yX8_all : MethodName := ⟨RX8, "all", "()J"⟩
abbrev cX8_isPicture : ByteArray := prog_10_method_6_code
def yX8_isPicture : MethodName := ⟨RX8, "isPicture", "(I)Z"⟩
abbrev cX8_isCell : ByteArray := prog_10_method_7_code
def yX8_isCell : MethodName := ⟨RX8, "isCell", "(I)Z"⟩
abbrev cX8_has : ByteArray := prog_10_method_8_code
def yX8_has : MethodName := ⟨RX8, "has", "(JI)Z"⟩
abbrev cX8_many : ByteArray := prog_10_method_9_code
def yX8_many : MethodName := ⟨RX8, "many", "(J)I"⟩
abbrev cX8_field : ByteArray := prog_10_method_10_code
def yX8_field : MethodName := ⟨RX8, "field", "(II)I"⟩
abbrev cX8_ink : ByteArray := prog_10_method_11_code
def yX8_ink : MethodName := ⟨RX8, "ink", "(IIZ)I"⟩
abbrev cX8_boxOf : ByteArray := prog_10_method_12_code
def yX8_boxOf : MethodName := ⟨RX8, "boxOf", "(II)J"⟩
abbrev cX8_box : ByteArray := prog_10_method_13_code
def yX8_box : MethodName := ⟨RX8, "box", "(IIIZ)I"⟩
abbrev cX8_at : ByteArray := prog_10_method_14_code
def yX8_at : MethodName := ⟨RX8, "at", "(II)I"⟩
abbrev cX8_number : ByteArray := prog_10_method_15_code
def yX8_number : MethodName := ⟨RX8, "number", "(I)J"⟩
abbrev cX8_stamp : ByteArray := prog_10_method_16_code
def yX8_stamp : MethodName := ⟨RX8, "stamp", "(II)I"⟩
abbrev cX8_rule : ByteArray := prog_10_method_17_code
def yX8_rule : MethodName := ⟨RX8, "rule", "(II)I"⟩
abbrev cX8_mix : ByteArray := prog_10_method_18_code
def yX8_mix : MethodName := ⟨RX8, "mix", "(IIII)I"⟩
abbrev cX8_stepFrom : ByteArray := prog_10_method_19_code
def yX8_stepFrom : MethodName := ⟨RX8, "stepFrom", "(II)I"⟩
abbrev cX8_grown : ByteArray := prog_10_method_20_code
def yX8_grown : MethodName := ⟨RX8, "grown", "(JI)J"⟩
abbrev cX8_worn : ByteArray := prog_10_method_21_code
def yX8_worn : MethodName := ⟨RX8, "worn", "(JI)J"⟩
abbrev cX8_isAct : ByteArray := prog_10_method_22_code
def yX8_isAct : MethodName := ⟨RX8, "isAct", "(I)Z"⟩
abbrev cX8_acted : ByteArray := prog_10_method_23_code
def yX8_acted : MethodName := ⟨RX8, "acted", "(JI)J"⟩
abbrev cX8_act : ByteArray := prog_10_method_24_code
def yX8_act : MethodName := ⟨RX8, "act", "(II)I"⟩
abbrev cX8_would : ByteArray := prog_10_method_25_code
def yX8_would : MethodName := ⟨RX8, "would", "(II)I"⟩
abbrev cX8_isProgram : ByteArray := prog_10_method_26_code
def yX8_isProgram : MethodName := ⟨RX8, "isProgram", "(I)Z"⟩
abbrev cX8_add : ByteArray := prog_10_method_27_code
def yX8_add : MethodName := ⟨RX8, "add", "(II)I"⟩
abbrev cX8_clear : ByteArray := prog_10_method_28_code
def yX8_clear : MethodName := ⟨RX8, "clear", "(I)I"⟩
abbrev cX8_ran : ByteArray := prog_10_method_29_code
def yX8_ran : MethodName := ⟨RX8, "ran", "(JI)J"⟩
abbrev cX8_run : ByteArray := prog_10_method_30_code
def yX8_run : MethodName := ⟨RX8, "run", "(II)I"⟩
abbrev cX8_actOf : ByteArray := prog_10_method_31_code
def yX8_actOf : MethodName := ⟨RX8, "actOf", "(I)I"⟩
abbrev cX8_findRow : ByteArray := prog_10_method_32_code
def yX8_findRow : MethodName := ⟨RX8, "findRow", "(JJI)Z"⟩
abbrev cX8_shortestOf : ByteArray := prog_10_method_33_code
def yX8_shortestOf : MethodName := ⟨RX8, "shortestOf", "(II)I"⟩
abbrev cX8_shortest : ByteArray := prog_10_method_34_code
def yX8_shortest : MethodName := ⟨RX8, "shortest", "(II)I"⟩
abbrev cX8_step : ByteArray := prog_10_method_35_code
def yX8_step : MethodName := ⟨RX8, "step", "(III)I"⟩
abbrev cX8_differ : ByteArray := prog_10_method_36_code
def yX8_differ : MethodName := ⟨RX8, "differ", "(II)I"⟩
abbrev cX8_pieceOf : ByteArray := prog_10_method_37_code
def yX8_pieceOf : MethodName := ⟨RX8, "pieceOf", "(JII)J"⟩
abbrev cX8_firstOf : ByteArray := prog_10_method_38_code
def yX8_firstOf : MethodName := ⟨RX8, "firstOf", "(J)I"⟩
abbrev cX8_edgeCells : ByteArray := prog_10_method_39_code
def yX8_edgeCells : MethodName := ⟨RX8, "edgeCells", "()J"⟩
abbrev cX8_holesOf : ByteArray := prog_10_method_40_code
def yX8_holesOf : MethodName := ⟨RX8, "holesOf", "(J)J"⟩
abbrev cX8_piecesOf : ByteArray := prog_10_method_41_code
def yX8_piecesOf : MethodName := ⟨RX8, "piecesOf", "(J)I"⟩
abbrev cX8_edgeOf : ByteArray := prog_10_method_42_code
def yX8_edgeOf : MethodName := ⟨RX8, "edgeOf", "(J)I"⟩
abbrev cX8_count : ByteArray := prog_10_method_43_code
def yX8_count : MethodName := ⟨RX8, "count", "(II)I"⟩
abbrev cX8_piece : ByteArray := prog_10_method_44_code
def yX8_piece : MethodName := ⟨RX8, "piece", "(II)I"⟩
abbrev cX8_keep : ByteArray := prog_10_method_45_code
def yX8_keep : MethodName := ⟨RX8, "keep", "(II)I"⟩
abbrev cX8_fill : ByteArray := prog_10_method_46_code
def yX8_fill : MethodName := ⟨RX8, "fill", "(I)I"⟩
abbrev cX8_pair : ByteArray := prog_10_method_47_code
def yX8_pair : MethodName := ⟨RX8, "pair", "(II)I"⟩
abbrev cX8_forget : ByteArray := prog_10_method_48_code
def yX8_forget : MethodName := ⟨RX8, "forget", "()I"⟩
abbrev cX8_hitsOf : ByteArray := prog_10_method_49_code
def yX8_hitsOf : MethodName := ⟨RX8, "hitsOf", "(JI)J"⟩
abbrev cX8_hits : ByteArray := prog_10_method_50_code
def yX8_hits : MethodName := ⟨RX8, "hits", "(II)I"⟩
abbrev cX8_thin : ByteArray := prog_10_method_51_code
def yX8_thin : MethodName := ⟨RX8, "thin", "(I)I"⟩
abbrev cX8_deep : ByteArray := prog_10_method_52_code
def yX8_deep : MethodName := ⟨RX8, "deep", "(III)I"⟩
abbrev cX8_explains : ByteArray := prog_10_method_53_code
def yX8_explains : MethodName := ⟨RX8, "explains", "(II)I"⟩
abbrev cX8_least : ByteArray := prog_10_method_54_code
def yX8_least : MethodName := ⟨RX8, "least", "(II)I"⟩
abbrev cX8_isWithin : ByteArray := prog_10_method_55_code
def yX8_isWithin : MethodName := ⟨RX8, "isWithin", "(JII)Z"⟩
abbrev cX8_isAllIn : ByteArray := prog_10_method_56_code
def yX8_isAllIn : MethodName := ⟨RX8, "isAllIn", "(JII)Z"⟩
abbrev cX8_layBoxes : ByteArray := prog_10_method_57_code
def yX8_layBoxes : MethodName := ⟨RX8, "layBoxes", "(J)V"⟩
abbrev cX8_boxes : ByteArray := prog_10_method_58_code
def yX8_boxes : MethodName := ⟨RX8, "boxes", "(IZ)I"⟩
abbrev cX8_lastOf : ByteArray := prog_10_method_59_code
def yX8_lastOf : MethodName := ⟨RX8, "lastOf", "(J)I"⟩
abbrev cX8_greatest : ByteArray := prog_10_method_60_code
def yX8_greatest : MethodName := ⟨RX8, "greatest", "(II)I"⟩
abbrev cX8_isCoveredBy : ByteArray := prog_10_method_61_code
def yX8_isCoveredBy : MethodName := ⟨RX8, "isCoveredBy", "(I)Z"⟩
abbrev cX8_covered : ByteArray := prog_10_method_62_code
def yX8_covered : MethodName := ⟨RX8, "covered", "(I)I"⟩
abbrev cX8_alone : ByteArray := prog_10_method_63_code
def yX8_alone : MethodName := ⟨RX8, "alone", "(II)I"⟩
def RJ6 : String := "java/lang/Integer"
def TJ6 : u_T := fun k => match k with
  | _ => ("", "", "", false)
def tyJ6 : Nat → FieldType := fun k => match k with
  | _ => .int
abbrev wsJ60 : List Cond := u_ws RJ6 TJ6 0
theorem nmJ6 : ∀ a, a < 0 → ∀ b, b < 0 → a ≠ b → (TJ6 a).2.1 ≠ (TJ6 b).2.1 := by decide +kernel
theorem tyJ6_ok : ∀ k, k < 0 → parseFieldDescriptor (TJ6 k).2.2.1 = some (tyJ6 k) := by decide +kernel
abbrev cJ6_bitCount_0f7a4 : ByteArray := prog_11_method_49_code
def yJ6_bitCount_0f7a4 : MethodName := ⟨RJ6, "bitCount", "(I)I"⟩
def RJ13 : String := "java/lang/Long"
def TJ13 : u_T := fun k => match k with
  | _ => ("", "", "", false)
def tyJ13 : Nat → FieldType := fun k => match k with
  | _ => .int
abbrev wsJ130 : List Cond := u_ws RJ13 TJ13 0
theorem nmJ13 : ∀ a, a < 0 → ∀ b, b < 0 → a ≠ b → (TJ13 a).2.1 ≠ (TJ13 b).2.1 := by decide +kernel
theorem tyJ13_ok : ∀ k, k < 0 → parseFieldDescriptor (TJ13 k).2.2.1 = some (tyJ13 k) := by decide +kernel
abbrev cJ13_bitCount_95d88 : ByteArray := prog_12_method_50_code
def yJ13_bitCount_95d88 : MethodName := ⟨RJ13, "bitCount", "(J)I"⟩
def RJ9 : String := "java/lang/Math"
def TJ9 : u_T := fun k => match k with
  | _ => ("", "", "", false)
def tyJ9 : Nat → FieldType := fun k => match k with
  | _ => .int
abbrev wsJ90 : List Cond := u_ws RJ9 TJ9 0
theorem nmJ9 : ∀ a, a < 0 → ∀ b, b < 0 → a ≠ b → (TJ9 a).2.1 ≠ (TJ9 b).2.1 := by decide +kernel
theorem tyJ9_ok : ∀ k, k < 0 → parseFieldDescriptor (TJ9 k).2.2.1 = some (tyJ9 k) := by decide +kernel
abbrev cJ9_min_7cf53 : ByteArray := prog_13_method_69_code
def yJ9_min_7cf53 : MethodName := ⟨RJ9, "min", "(II)I"⟩
def RL : String := "WornShapesLaw"
abbrev cL_law : ByteArray := code
abbrev vwCl : List vw_C := [(RX0, TX0, 6), (RX1, TX1, 8), (RX2, TX2, 5), (RX3, TX3, 2), (RX4, TX4, 3), (RX5, TX5, 3), (RX6, TX6, 3), (RX7, TX7, 8), (RX8, TX8, 19)]
theorem inX0 : ∀ w ∈ wsX00, w ∈ lw_tbl := by decide +kernel
theorem inX1 : ∀ w ∈ wsX10, w ∈ lw_tbl := by decide +kernel
theorem inX2 : ∀ w ∈ wsX20, w ∈ lw_tbl := by decide +kernel
theorem inX3 : ∀ w ∈ wsX30, w ∈ lw_tbl := by decide +kernel
theorem inX4 : ∀ w ∈ wsX40, w ∈ lw_tbl := by decide +kernel
theorem inX5 : ∀ w ∈ wsX50, w ∈ lw_tbl := by decide +kernel
theorem inX6 : ∀ w ∈ wsX60, w ∈ lw_tbl := by decide +kernel
theorem inX7 : ∀ w ∈ wsX70, w ∈ lw_tbl := by decide +kernel
theorem inX8 : ∀ w ∈ wsX80, w ∈ lw_tbl := by decide +kernel
end
section
def tw : List Cond := lw_tbl.filter goodWord
theorem tw_of {w : Cond} (h : w ∈ lw_tbl) (g : goodWord w = true) : w ∈ tw := List.mem_filter.mpr ⟨h, g⟩
theorem tw_sub {w : Cond} (h : w ∈ tw) : w ∈ lw_tbl := (List.mem_filter.mp h).1
theorem tw_g {w : Cond} (h : w ∈ tw) : w ∈ tw ∧ ((w.onTables && w.keeps) = true ∨ ∃ ty, w = .arrayClass ty) := ⟨h, good_of_word (List.mem_filter.mp h).2⟩
theorem tw_cons {w : Cond} (h : w ∈ tw) : GoodIn tw (w :: tw) := fun x hx => (List.mem_cons.mp hx).elim (fun e => by rw [e]; exact tw_g h) tw_g
theorem tw_V {own C : String} {idx n : Nat} {y : MethodName} {c : ByteArray} {r : Option FieldType} (h1 : Cond.methodLink own idx y ∈ tw) (h2 : Cond.instanceMethod y ∈ tw) (h3 : Cond.selects C y y ∈ tw) (h4 : Cond.initialized C ∈ tw) (h5 : Cond.code y c n r ∈ tw) : GoodIn tw (wsV own idx C y (.code y c n r :: tw)) := by
  intro w hw
  unfold wsV at hw
  simp only [List.cons_append, List.nil_append, List.mem_cons] at hw
  rcases hw with e | e | e | e | e | e
  · rw [e]; exact tw_g h1
  · rw [e]; exact tw_g h2
  · rw [e]; exact tw_g h3
  · rw [e]; exact tw_g h4
  · rw [e]; exact tw_g h5
  · exact tw_g e
theorem tw_S2 {own : String} {idx n : Nat} {y : MethodName} {c : ByteArray} {r : Option FieldType} (h1 : Cond.methodLink own idx y ∈ tw) (h2 : Cond.static y ∈ tw) (h4 : Cond.initialized y.cls ∈ tw) (h5 : Cond.code y c n r ∈ tw) : GoodIn tw (va_wsS own idx y (.code y c n r :: tw)) := by
  intro w hw
  unfold va_wsS at hw
  simp only [List.cons_append, List.nil_append, List.mem_cons] at hw
  rcases hw with e | e | e | e | e
  · rw [e]; exact tw_g h1
  · rw [e]; exact tw_g h2
  · rw [e]; exact tw_g h4
  · rw [e]; exact tw_g h5
  · exact tw_g e
abbrev jrem (x y : Int32) : Int32 := x - x / y * y
def jiushr (x y : Int32) : Int32 := (x.toUInt32 >>> (y.toUInt32 &&& Int32.toUInt32 31)).toInt32
def jlushr (x : Int64) (y : Int32) : Int64 := (x.toUInt64 >>> (y.toInt64.toUInt64 &&& Int64.toUInt64 63)).toInt64
def jlshl (x : Int64) (y : Int32) : Int64 := x <<< (y.toInt64 &&& 63)
def jlshr (x : Int64) (y : Int32) : Int64 := x >>> (y.toInt64 &&& 63)
abbrev ib (i : Int32) (n : Nat) : Prop := ¬ (i < 0 ∨ n ≤ i.toNatClampNeg)
def gd {α : Type} (b : Prop) [Decidable b] (k : Option α) : Option α := if b then k else none
theorem gd_out {α : Type} {b : Prop} [Decidable b] {k : Option α} {r : α} (h : gd b k = some r) : b ∧ k = some r := by
  unfold gd at h
  by_cases hb : b
  · rw [if_pos hb] at h; exact ⟨hb, h⟩
  · rw [if_neg hb] at h; cases h
def jl {α β : Type} (e : α) (k : α → β) : β := k e
theorem jl_out {α β : Type} {e : α} {k : α → β} {r : β} (h : jl e k = r) : ∃ v, v = e ∧ k v = r := ⟨e, rfl, h⟩
def jb {α β : Type} (o : Option α) (k : α → Option β) : Option β := o.bind k
theorem jb_out {α β : Type} {o : Option α} {k : α → Option β} {r : β} (h : jb o k = some r) : ∃ v, o = some v ∧ k v = some r := Option.bind_eq_some_iff.mp h
def jb0 {β : Type} (o : Option Unit) (k : Option β) : Option β := o.bind (fun _ => k)
theorem jb_out0 {β : Type} {o : Option Unit} {k : Option β} {r : β} (h : jb0 o k = some r) : o = some () ∧ k = some r := by
  obtain ⟨v, h1, h2⟩ := Option.bind_eq_some_iff.mp h
  exact ⟨h1, h2⟩
def pr2 {A1 A2 β : Type} (q : A1 × A2) (k : A1 → A2 → β) : β := k q.1 q.2
def jb2 {A1 A2 β : Type} (o : Option (A1 × A2)) (k : A1 → A2 → Option β) : Option β := o.bind (fun q => k q.1 q.2)
theorem jb_out2 {A1 A2 β : Type} {o : Option (A1 × A2)} {k : A1 → A2 → Option β} {r : β} (h : jb2 o k = some r) : ∃ v1 v2, o = some (v1, v2) ∧ k v1 v2 = some r := by
  obtain ⟨v, h1, h2⟩ := Option.bind_eq_some_iff.mp h
  exact ⟨v.1, v.2, h1, h2⟩
def pr3 {A1 A2 A3 β : Type} (q : A1 × A2 × A3) (k : A1 → A2 → A3 → β) : β := k q.1 q.2.1 q.2.2
def jb3 {A1 A2 A3 β : Type} (o : Option (A1 × A2 × A3)) (k : A1 → A2 → A3 → Option β) : Option β := o.bind (fun q => k q.1 q.2.1 q.2.2)
theorem jb_out3 {A1 A2 A3 β : Type} {o : Option (A1 × A2 × A3)} {k : A1 → A2 → A3 → Option β} {r : β} (h : jb3 o k = some r) : ∃ v1 v2 v3, o = some (v1, v2, v3) ∧ k v1 v2 v3 = some r := by
  obtain ⟨v, h1, h2⟩ := Option.bind_eq_some_iff.mp h
  exact ⟨v.1, v.2.1, v.2.2, h1, h2⟩
def pr4 {A1 A2 A3 A4 β : Type} (q : A1 × A2 × A3 × A4) (k : A1 → A2 → A3 → A4 → β) : β := k q.1 q.2.1 q.2.2.1 q.2.2.2
def jb4 {A1 A2 A3 A4 β : Type} (o : Option (A1 × A2 × A3 × A4)) (k : A1 → A2 → A3 → A4 → Option β) : Option β := o.bind (fun q => k q.1 q.2.1 q.2.2.1 q.2.2.2)
theorem jb_out4 {A1 A2 A3 A4 β : Type} {o : Option (A1 × A2 × A3 × A4)} {k : A1 → A2 → A3 → A4 → Option β} {r : β} (h : jb4 o k = some r) : ∃ v1 v2 v3 v4, o = some (v1, v2, v3, v4) ∧ k v1 v2 v3 v4 = some r := by
  obtain ⟨v, h1, h2⟩ := Option.bind_eq_some_iff.mp h
  exact ⟨v.1, v.2.1, v.2.2.1, v.2.2.2, h1, h2⟩
def pr5 {A1 A2 A3 A4 A5 β : Type} (q : A1 × A2 × A3 × A4 × A5) (k : A1 → A2 → A3 → A4 → A5 → β) : β := k q.1 q.2.1 q.2.2.1 q.2.2.2.1 q.2.2.2.2
def jb5 {A1 A2 A3 A4 A5 β : Type} (o : Option (A1 × A2 × A3 × A4 × A5)) (k : A1 → A2 → A3 → A4 → A5 → Option β) : Option β := o.bind (fun q => k q.1 q.2.1 q.2.2.1 q.2.2.2.1 q.2.2.2.2)
theorem jb_out5 {A1 A2 A3 A4 A5 β : Type} {o : Option (A1 × A2 × A3 × A4 × A5)} {k : A1 → A2 → A3 → A4 → A5 → Option β} {r : β} (h : jb5 o k = some r) : ∃ v1 v2 v3 v4 v5, o = some (v1, v2, v3, v4, v5) ∧ k v1 v2 v3 v4 v5 = some r := by
  obtain ⟨v, h1, h2⟩ := Option.bind_eq_some_iff.mp h
  exact ⟨v.1, v.2.1, v.2.2.1, v.2.2.2.1, v.2.2.2.2, h1, h2⟩
def pr6 {A1 A2 A3 A4 A5 A6 β : Type} (q : A1 × A2 × A3 × A4 × A5 × A6) (k : A1 → A2 → A3 → A4 → A5 → A6 → β) : β := k q.1 q.2.1 q.2.2.1 q.2.2.2.1 q.2.2.2.2.1 q.2.2.2.2.2
def jb6 {A1 A2 A3 A4 A5 A6 β : Type} (o : Option (A1 × A2 × A3 × A4 × A5 × A6)) (k : A1 → A2 → A3 → A4 → A5 → A6 → Option β) : Option β := o.bind (fun q => k q.1 q.2.1 q.2.2.1 q.2.2.2.1 q.2.2.2.2.1 q.2.2.2.2.2)
theorem jb_out6 {A1 A2 A3 A4 A5 A6 β : Type} {o : Option (A1 × A2 × A3 × A4 × A5 × A6)} {k : A1 → A2 → A3 → A4 → A5 → A6 → Option β} {r : β} (h : jb6 o k = some r) : ∃ v1 v2 v3 v4 v5 v6, o = some (v1, v2, v3, v4, v5, v6) ∧ k v1 v2 v3 v4 v5 v6 = some r := by
  obtain ⟨v, h1, h2⟩ := Option.bind_eq_some_iff.mp h
  exact ⟨v.1, v.2.1, v.2.2.1, v.2.2.2.1, v.2.2.2.2.1, v.2.2.2.2.2, h1, h2⟩
def pr7 {A1 A2 A3 A4 A5 A6 A7 β : Type} (q : A1 × A2 × A3 × A4 × A5 × A6 × A7) (k : A1 → A2 → A3 → A4 → A5 → A6 → A7 → β) : β := k q.1 q.2.1 q.2.2.1 q.2.2.2.1 q.2.2.2.2.1 q.2.2.2.2.2.1 q.2.2.2.2.2.2
def jb7 {A1 A2 A3 A4 A5 A6 A7 β : Type} (o : Option (A1 × A2 × A3 × A4 × A5 × A6 × A7)) (k : A1 → A2 → A3 → A4 → A5 → A6 → A7 → Option β) : Option β := o.bind (fun q => k q.1 q.2.1 q.2.2.1 q.2.2.2.1 q.2.2.2.2.1 q.2.2.2.2.2.1 q.2.2.2.2.2.2)
theorem jb_out7 {A1 A2 A3 A4 A5 A6 A7 β : Type} {o : Option (A1 × A2 × A3 × A4 × A5 × A6 × A7)} {k : A1 → A2 → A3 → A4 → A5 → A6 → A7 → Option β} {r : β} (h : jb7 o k = some r) : ∃ v1 v2 v3 v4 v5 v6 v7, o = some (v1, v2, v3, v4, v5, v6, v7) ∧ k v1 v2 v3 v4 v5 v6 v7 = some r := by
  obtain ⟨v, h1, h2⟩ := Option.bind_eq_some_iff.mp h
  exact ⟨v.1, v.2.1, v.2.2.1, v.2.2.2.1, v.2.2.2.2.1, v.2.2.2.2.2.1, v.2.2.2.2.2.2, h1, h2⟩
def pr8 {A1 A2 A3 A4 A5 A6 A7 A8 β : Type} (q : A1 × A2 × A3 × A4 × A5 × A6 × A7 × A8) (k : A1 → A2 → A3 → A4 → A5 → A6 → A7 → A8 → β) : β := k q.1 q.2.1 q.2.2.1 q.2.2.2.1 q.2.2.2.2.1 q.2.2.2.2.2.1 q.2.2.2.2.2.2.1 q.2.2.2.2.2.2.2
def jb8 {A1 A2 A3 A4 A5 A6 A7 A8 β : Type} (o : Option (A1 × A2 × A3 × A4 × A5 × A6 × A7 × A8)) (k : A1 → A2 → A3 → A4 → A5 → A6 → A7 → A8 → Option β) : Option β := o.bind (fun q => k q.1 q.2.1 q.2.2.1 q.2.2.2.1 q.2.2.2.2.1 q.2.2.2.2.2.1 q.2.2.2.2.2.2.1 q.2.2.2.2.2.2.2)
theorem jb_out8 {A1 A2 A3 A4 A5 A6 A7 A8 β : Type} {o : Option (A1 × A2 × A3 × A4 × A5 × A6 × A7 × A8)} {k : A1 → A2 → A3 → A4 → A5 → A6 → A7 → A8 → Option β} {r : β} (h : jb8 o k = some r) : ∃ v1 v2 v3 v4 v5 v6 v7 v8, o = some (v1, v2, v3, v4, v5, v6, v7, v8) ∧ k v1 v2 v3 v4 v5 v6 v7 v8 = some r := by
  obtain ⟨v, h1, h2⟩ := Option.bind_eq_some_iff.mp h
  exact ⟨v.1, v.2.1, v.2.2.1, v.2.2.2.1, v.2.2.2.2.1, v.2.2.2.2.2.1, v.2.2.2.2.2.2.1, v.2.2.2.2.2.2.2, h1, h2⟩
def el2 {A B G : Type} (q : A ⊕ B) (k1 : A → G) (k2 : B → G) : G := match q with
  | .inl a => k1 a
  | .inr b => k2 b
def el3 {A B C G : Type} (q : A ⊕ B ⊕ C) (k1 : A → G) (k2 : B → G) (k3 : C → G) : G := match q with
  | .inl a => k1 a
  | .inr (.inl b) => k2 b
  | .inr (.inr b) => k3 b
theorem tsw4 {x : Int32} (h0 : ¬ x = 0) (h1 : ¬ x = 1) (h2 : ¬ x = 2) (h3 : ¬ x = 3) : x.toInt < 0 ∨ 3 < x.toInt := by
  have e0 : x.toInt ≠ 0 := fun h => h0 (Int32.toInt_inj.mp (by rw [h]; rfl))
  have e1 : x.toInt ≠ 1 := fun h => h1 (Int32.toInt_inj.mp (by rw [h]; rfl))
  have e2 : x.toInt ≠ 2 := fun h => h2 (Int32.toInt_inj.mp (by rw [h]; rfl))
  have e3 : x.toInt ≠ 3 := fun h => h3 (Int32.toInt_inj.mp (by rw [h]; rfl))
  omega
def side4 : Nat → Int32 := fun j => if j = 0 then 1 else if j = 1 then 3 else if j = 2 then 5 else 7
def acts9 : Nat → Int32 := fun j => if j = 0 then 0 else if j = 1 then 1 else if j = 2 then 2 else if j = 3 then 3 else if j = 4 then 10 else if j = 5 then 11 else if j = 6 then 12 else if j = 7 then 13 else 40
def rdP (D : va_G) (av : List Value) (ws : va_W) (tys : List (ClassId × FieldType)) : Array Value → State → Prop := va_Pc av (fun U => va_P D vwCl ws U.heap ∧ va_K D vwCl tys U)
theorem rdP_bl {D : va_G} {av : List Value} {ws : va_W} {tys : List (ClassId × FieldType)} : FrameBlind (rdP D av ws tys) := fun a U g mk q => ⟨q.1, q.2.1, va_K.moved (u := U) (U := U.calling g mk a) (Vm.Alike.refl U.vm) q.2.2⟩
theorem rdP_ok {D : va_G} {av : List Value} {ws : va_W} {tys : List (ClassId × FieldType)} {s : State} {H : Heap} (hP : va_P D vwCl ws H) (hK : va_K D vwCl tys s) : ∀ U : State, U.heap = H → s.WarmedH U.vm → rdP D av ws tys av.toArray U := fun U hU hW => ⟨rfl, by rw [hU]; exact hP, va_K.moved hW.alike hK⟩
def stZ (A : Nat → Prop) (tS tA : Nat) (U : State) (H : Heap) : Prop := va_Z "WornShapes$Field" "SIDE_STEPS" "[I" (.ref tS) A U H ∧ va_T .int tS 4 (fun j => .int (side4 j)) A U H ∧ va_Z "WornShapes$Search" "ACTS" "[I" (.ref tA) A U H ∧ va_T .int tA 9 (fun j => .int (acts9 j)) A U H
theorem stZ.moved {A : Nat → Prop} {tS tA : Nat} {u U : State} {H : Heap} (hvm : u.vm.Alike U.vm) (h : stZ A tS tA u H) : stZ A tS tA U H := ⟨va_Z.moved hvm h.1, va_T.moved hvm h.2.1, va_Z.moved hvm h.2.2.1, va_T.moved hvm h.2.2.2⟩
theorem stZ.narrow {A B : Nat → Prop} {tS tA : Nat} {U : State} {H : Heap} (h : stZ A tS tA U H) (hAB : ∀ q, B q → A q) : stZ B tS tA U H := ⟨va_Z.narrow h.1 hAB, va_T.narrow h.2.1 hAB, va_Z.narrow h.2.2.1 hAB, va_T.narrow h.2.2.2 hAB⟩
theorem stZ_at {A : Nat → Prop} {tS tA : Nat} {U : State} {H0 H : Heap} {locs : List Loc} (h : stZ A tS tA U H0) (hS : va_S A H0 H locs) : stZ (fun _ => False) tS tA U H := (show stZ A tS tA U H from ⟨va_Z.kept h.1 (fun a x y => hS.2.1 a x y), va_T.kept h.2.1 (fun a x y => hS.2.1 a x y), va_Z.kept h.2.2.1 (fun a x y => hS.2.1 a x y), va_T.kept h.2.2.2 (fun a x y => hS.2.1 a x y)⟩).narrow (fun _ h => h.elim)
def rdZ (D : va_G) (av : List Value) (ws : va_W) (tys : List (ClassId × FieldType)) (tS tA : Nat) : Array Value → State → Prop := va_Pc av (fun U => va_P D vwCl ws U.heap ∧ va_K D vwCl tys U ∧ stZ (fun _ => False) tS tA U U.heap)
theorem rdZ_bl {D : va_G} {av : List Value} {ws : va_W} {tys : List (ClassId × FieldType)} {tS tA : Nat} : FrameBlind (rdZ D av ws tys tS tA) := fun a U g mk q => ⟨q.1, q.2.1, va_K.moved (u := U) (U := U.calling g mk a) (Vm.Alike.refl U.vm) q.2.2.1, stZ.moved (u := U) (U := U.calling g mk a) (Vm.Alike.refl U.vm) q.2.2.2⟩
theorem rdZ_ok {D : va_G} {av : List Value} {ws : va_W} {tys : List (ClassId × FieldType)} {tS tA : Nat} {s : State} {H : Heap} (hP : va_P D vwCl ws H) (hK : va_K D vwCl tys s) (hz : stZ (fun _ => False) tS tA s H) : ∀ U : State, U.heap = H → s.WarmedH U.vm → rdZ D av ws tys tS tA av.toArray U := fun U hU hW => ⟨rfl, by rw [hU]; exact hP, va_K.moved hW.alike hK, by rw [hU]; exact stZ.moved hW.alike hz⟩
theorem tnX0 : ∀ w ∈ u_ws RX0 TX0 6, w ∈ tw := fun w h => tw_of (inX0 w h) (by revert w; decide +kernel)
theorem tnX1 : ∀ w ∈ u_ws RX1 TX1 8, w ∈ tw := fun w h => tw_of (inX1 w h) (by revert w; decide +kernel)
theorem tnX2 : ∀ w ∈ u_ws RX2 TX2 5, w ∈ tw := fun w h => tw_of (inX2 w h) (by revert w; decide +kernel)
theorem tnX3 : ∀ w ∈ u_ws RX3 TX3 2, w ∈ tw := fun w h => tw_of (inX3 w h) (by revert w; decide +kernel)
theorem tnX4 : ∀ w ∈ u_ws RX4 TX4 3, w ∈ tw := fun w h => tw_of (inX4 w h) (by revert w; decide +kernel)
theorem tnX5 : ∀ w ∈ u_ws RX5 TX5 3, w ∈ tw := fun w h => tw_of (inX5 w h) (by revert w; decide +kernel)
theorem tnX6 : ∀ w ∈ u_ws RX6 TX6 3, w ∈ tw := fun w h => tw_of (inX6 w h) (by revert w; decide +kernel)
theorem tnX7 : ∀ w ∈ u_ws RX7 TX7 8, w ∈ tw := fun w h => tw_of (inX7 w h) (by revert w; decide +kernel)
theorem tnX8 : ∀ w ∈ u_ws RX8 TX8 19, w ∈ tw := fun w h => tw_of (inX8 w h) (by revert w; decide +kernel)
abbrev va_p3 (a b c : Nat) : Nat → Option Nat := fun j => if j = 0 then some a else if j = 1 then some b else if j = 2 then some c else none
abbrev wdF (cI : ClassId) (cJ : ClassId) (hF : Nat) (hFr : Nat) (hFs : Nat) (hFc : Nat) (hFw : Nat) (fw : Int32) (fc : Int32) (fwh : Int64) (fbo : Int64) (fra : Nat → Int32) (fst : Nat → Int64) (fco : Nat → Int32) (fro : Nat → Int32) : va_W := [(hF, .inr (1, [.int fw, .int fc, .long fwh, .long fbo, .ref hFr, .ref hFs, .ref hFc, .ref hFw])), (hFr, .inl (cI, 9, .inl fra)), (hFs, .inl (cJ, 9, .inr (.inl fst))), (hFc, .inl (cI, 49, .inl fco)), (hFw, .inl (cI, 49, .inl fro))]
abbrev wdS (cI : ClassId) (cJ : ClassId) (hS : Nat) (hSs : Nat) (hF : Nat) (hFr : Nat) (hFs : Nat) (hFc : Nat) (hFw : Nat) (srim : Int32) (sst : Nat → Int32) (fw : Int32) (fc : Int32) (fwh : Int64) (fbo : Int64) (fra : Nat → Int32) (fst : Nat → Int64) (fco : Nat → Int32) (fro : Nat → Int32) : va_W := [(hS, .inr (6, [.ref hF, .ref hSs, .int srim])), (hSs, .inl (cI, 4, .inl sst)), (hF, .inr (1, [.int fw, .int fc, .long fwh, .long fbo, .ref hFr, .ref hFs, .ref hFc, .ref hFw])), (hFr, .inl (cI, 9, .inl fra)), (hFs, .inl (cJ, 9, .inr (.inl fst))), (hFc, .inl (cI, 49, .inl fco)), (hFw, .inl (cI, 49, .inl fro))]
abbrev wdG (cI : ClassId) (cJ : ClassId) (hG : Nat) (hGa : Nat) (hS : Nat) (hSs : Nat) (hF : Nat) (hFr : Nat) (hFs : Nat) (hFc : Nat) (hFw : Nat) (gsz : Int32) (gac : Nat → Int32) (srim : Int32) (sst : Nat → Int32) (fw : Int32) (fc : Int32) (fwh : Int64) (fbo : Int64) (fra : Nat → Int32) (fst : Nat → Int64) (fco : Nat → Int32) (fro : Nat → Int32) : va_W := [(hG, .inr (4, [.ref hS, .ref hGa, .int gsz])), (hGa, .inl (cI, 8, .inl gac)), (hS, .inr (6, [.ref hF, .ref hSs, .int srim])), (hSs, .inl (cI, 4, .inl sst)), (hF, .inr (1, [.int fw, .int fc, .long fwh, .long fbo, .ref hFr, .ref hFs, .ref hFc, .ref hFw])), (hFr, .inl (cI, 9, .inl fra)), (hFs, .inl (cJ, 9, .inr (.inl fst))), (hFc, .inl (cI, 49, .inl fco)), (hFw, .inl (cI, 49, .inl fro))]
abbrev wdQ (cI : ClassId) (cJ : ClassId) (hQ : Nat) (hQw : Nat) (hS : Nat) (hSs : Nat) (hF : Nat) (hFr : Nat) (hFs : Nat) (hFc : Nat) (hFw : Nat) (qln : Int32) (qwy : Nat → Int32) (srim : Int32) (sst : Nat → Int32) (fw : Int32) (fc : Int32) (fwh : Int64) (fbo : Int64) (fra : Nat → Int32) (fst : Nat → Int64) (fco : Nat → Int32) (fro : Nat → Int32) : va_W := [(hQ, .inr (5, [.ref hS, .ref hQw, .int qln])), (hQw, .inl (cI, 4, .inl qwy)), (hS, .inr (6, [.ref hF, .ref hSs, .int srim])), (hSs, .inl (cI, 4, .inl sst)), (hF, .inr (1, [.int fw, .int fc, .long fwh, .long fbo, .ref hFr, .ref hFs, .ref hFc, .ref hFw])), (hFr, .inl (cI, 9, .inl fra)), (hFs, .inl (cJ, 9, .inr (.inl fst))), (hFc, .inl (cI, 49, .inl fco)), (hFw, .inl (cI, 49, .inl fro))]
abbrev wdI (cI : ClassId) (cJ : ClassId) (hI : Nat) (hF : Nat) (hFr : Nat) (hFs : Nat) (hFc : Nat) (hFw : Nat) (ijn : Int32) (fw : Int32) (fc : Int32) (fwh : Int64) (fbo : Int64) (fra : Nat → Int32) (fst : Nat → Int64) (fco : Nat → Int32) (fro : Nat → Int32) : va_W := [(hI, .inr (3, [.ref hF, .int ijn])), (hF, .inr (1, [.int fw, .int fc, .long fwh, .long fbo, .ref hFr, .ref hFs, .ref hFc, .ref hFw])), (hFr, .inl (cI, 9, .inl fra)), (hFs, .inl (cJ, 9, .inr (.inl fst))), (hFc, .inl (cI, 49, .inl fco)), (hFw, .inl (cI, 49, .inl fro))]
abbrev wdR (cI : ClassId) (cJ : ClassId) (hR : Nat) (hRh : Nat) (hRm : Nat) (hS : Nat) (hSs : Nat) (hF : Nat) (hFr : Nat) (hFs : Nat) (hFc : Nat) (hFw : Nat) (rsz : Int32) (rhi : Nat → Int32) (rmi : Nat → Int32) (srim : Int32) (sst : Nat → Int32) (fw : Int32) (fc : Int32) (fwh : Int64) (fbo : Int64) (fra : Nat → Int32) (fst : Nat → Int64) (fco : Nat → Int32) (fro : Nat → Int32) : va_W := [(hR, .inr (2, [.ref hF, .ref hS, .ref hRh, .ref hRm, .int rsz])), (hRh, .inl (cI, 8, .inl rhi)), (hRm, .inl (cI, 8, .inl rmi)), (hS, .inr (6, [.ref hF, .ref hSs, .int srim])), (hSs, .inl (cI, 4, .inl sst)), (hF, .inr (1, [.int fw, .int fc, .long fwh, .long fbo, .ref hFr, .ref hFs, .ref hFc, .ref hFw])), (hFr, .inl (cI, 9, .inl fra)), (hFs, .inl (cJ, 9, .inr (.inl fst))), (hFc, .inl (cI, 49, .inl fco)), (hFw, .inl (cI, 49, .inl fro))]
abbrev wdB (cJ : ClassId) (cI : ClassId) (hB : Nat) (hBw : Nat) (hF : Nat) (hFr : Nat) (hFs : Nat) (hFc : Nat) (hFw : Nat) (bsz : Int32) (bfi : Int32) (bla : Int32) (bar : Int32) (bwi : Nat → Int64) (fw : Int32) (fc : Int32) (fwh : Int64) (fbo : Int64) (fra : Nat → Int32) (fst : Nat → Int64) (fco : Nat → Int32) (fro : Nat → Int32) : va_W := [(hB, .inr (0, [.ref hF, .ref hBw, .int bsz, .int bfi, .int bla, .int bar])), (hBw, .inl (cJ, 210, .inr (.inl bwi))), (hF, .inr (1, [.int fw, .int fc, .long fwh, .long fbo, .ref hFr, .ref hFs, .ref hFc, .ref hFw])), (hFr, .inl (cI, 9, .inl fra)), (hFs, .inl (cJ, 9, .inr (.inl fst))), (hFc, .inl (cI, 49, .inl fco)), (hFw, .inl (cI, 49, .inl fro))]
abbrev wdX (cJ : ClassId) (cG : ClassId) (cI : ClassId) (hX : Nat) (hXp : Nat) (hXg : Nat) (hG0 : Nat) (hGa0 : Nat) (hG1 : Nat) (hGa1 : Nat) (hG2 : Nat) (hGa2 : Nat) (hQ : Nat) (hQw : Nat) (hI : Nat) (hR : Nat) (hRh : Nat) (hRm : Nat) (hB : Nat) (hBw : Nat) (hS : Nat) (hSs : Nat) (hF : Nat) (hFr : Nat) (hFs : Nat) (hFc : Nat) (hFw : Nat) (xpi : Nat → Int64) (gs0 : Int32) (ga0 : Nat → Int32) (gs1 : Int32) (ga1 : Nat → Int32) (gs2 : Int32) (ga2 : Nat → Int32) (qln : Int32) (qwy : Nat → Int32) (ijn : Int32) (rsz : Int32) (rhi : Nat → Int32) (rmi : Nat → Int32) (bsz : Int32) (bfi : Int32) (bla : Int32) (bar : Int32) (bwi : Nat → Int64) (srim : Int32) (sst : Nat → Int32) (fw : Int32) (fc : Int32) (fwh : Int64) (fbo : Int64) (fra : Nat → Int32) (fst : Nat → Int64) (fco : Nat → Int32) (fro : Nat → Int32) : va_W := [(hX, .inr (7, [.ref hF, .ref hXp, .ref hS, .ref hXg, .ref hQ, .ref hI, .ref hR, .ref hB])), (hXp, .inl (cJ, 5, .inr (.inl xpi))), (hXg, .inl (cG, 3, .inr (.inr (.inr (.inr (va_p3 hG0 hG1 hG2)))))), (hG0, .inr (4, [.ref hS, .ref hGa0, .int gs0])), (hGa0, .inl (cI, 8, .inl ga0)), (hG1, .inr (4, [.ref hS, .ref hGa1, .int gs1])), (hGa1, .inl (cI, 8, .inl ga1)), (hG2, .inr (4, [.ref hS, .ref hGa2, .int gs2])), (hGa2, .inl (cI, 8, .inl ga2)), (hQ, .inr (5, [.ref hS, .ref hQw, .int qln])), (hQw, .inl (cI, 4, .inl qwy)), (hI, .inr (3, [.ref hF, .int ijn])), (hR, .inr (2, [.ref hF, .ref hS, .ref hRh, .ref hRm, .int rsz])), (hRh, .inl (cI, 8, .inl rhi)), (hRm, .inl (cI, 8, .inl rmi)), (hB, .inr (0, [.ref hF, .ref hBw, .int bsz, .int bfi, .int bla, .int bar])), (hBw, .inl (cJ, 210, .inr (.inl bwi))), (hS, .inr (6, [.ref hF, .ref hSs, .int srim])), (hSs, .inl (cI, 4, .inl sst)), (hF, .inr (1, [.int fw, .int fc, .long fwh, .long fbo, .ref hFr, .ref hFs, .ref hFc, .ref hFw])), (hFr, .inl (cI, 9, .inl fra)), (hFs, .inl (cJ, 9, .inr (.inl fst))), (hFc, .inl (cI, 49, .inl fco)), (hFw, .inl (cI, 49, .inl fro))]
abbrev wdM (cJ : ClassId) (cI : ClassId) (hM : Nat) (hM1 : Nat) (hM2 : Nat) (hM3 : Nat) (hM4 : Nat) (hM5 : Nat) (hM6 : Nat) (hM7 : Nat) (hM8 : Nat) (hM9 : Nat) (hM10 : Nat) (hM11 : Nat) (mw : Int32) (mt : Int32) (mrim : Int32) (mjn : Int32) (mhm : Int32) (mpn : Int32) (mbm : Int32) (mgm : Int32) (mpi : Nat → Int64) (mst : Nat → Int32) (mam : Nat → Int32) (mac : Nat → Int32) (mro : Nat → Int32) (mbe : Nat → Int64) (mhi : Nat → Int32) (mmi : Nat → Int32) (mgr : Nat → Int64) (mtr : Nat → Int32) (mle : Nat → Int64) : va_W := [(hM, .inr (8, [.int mw, .int mt, .ref hM1, .ref hM2, .int mrim, .int mjn, .ref hM3, .ref hM4, .ref hM5, .ref hM6, .int mhm, .int mpn, .ref hM7, .ref hM8, .int mbm, .int mgm, .ref hM9, .ref hM10, .ref hM11])), (hM1, .inl (cJ, 5, .inr (.inl mpi))), (hM2, .inl (cI, 4, .inl mst)), (hM3, .inl (cI, 3, .inl mam)), (hM4, .inl (cI, 24, .inl mac)), (hM5, .inl (cI, 4, .inl mro)), (hM6, .inl (cJ, 5, .inr (.inl mbe))), (hM7, .inl (cI, 8, .inl mhi)), (hM8, .inl (cI, 8, .inl mmi)), (hM9, .inl (cJ, 800, .inr (.inl mgr))), (hM10, .inl (cI, 21, .inl mtr)), (hM11, .inl (cJ, 22, .inr (.inl mle)))]
end
section
theorem qw_0 : Cond.constant RJ6 265 (1431655765) ∈ tw := tw_of (by decide +kernel) rfl
theorem qw_1 : Cond.constant RJ6 266 (858993459) ∈ tw := tw_of (by decide +kernel) rfl
theorem qw_2 : Cond.constant RJ6 267 (252645135) ∈ tw := tw_of (by decide +kernel) rfl
theorem qw_3 : Cond.static yJ6_bitCount_0f7a4 ∈ tw := tw_of (by decide +kernel) rfl
theorem qw_4 : Cond.initialized RJ6 ∈ tw := tw_of (by decide +kernel) rfl
theorem qw_5 : Cond.code yJ6_bitCount_0f7a4 cJ6_bitCount_0f7a4 1 (some .int) ∈ tw := tw_of (by decide +kernel) rfl
theorem qw_6 : Cond.constantLong RJ13 314 (6148914691236517205) ∈ tw := tw_of (by decide +kernel) rfl
theorem qw_7 : Cond.constantLong RJ13 316 (3689348814741910323) ∈ tw := tw_of (by decide +kernel) rfl
theorem qw_8 : Cond.constantLong RJ13 318 (1085102592571150095) ∈ tw := tw_of (by decide +kernel) rfl
theorem qw_9 : Cond.static yJ13_bitCount_95d88 ∈ tw := tw_of (by decide +kernel) rfl
theorem qw_10 : Cond.initialized RJ13 ∈ tw := tw_of (by decide +kernel) rfl
theorem qw_11 : Cond.code yJ13_bitCount_95d88 cJ13_bitCount_95d88 2 (some .int) ∈ tw := tw_of (by decide +kernel) rfl
theorem qw_12 : Cond.static yJ9_min_7cf53 ∈ tw := tw_of (by decide +kernel) rfl
theorem qw_13 : Cond.initialized RJ9 ∈ tw := tw_of (by decide +kernel) rfl
theorem qw_14 : Cond.code yJ9_min_7cf53 cJ9_min_7cf53 2 (some .int) ∈ tw := tw_of (by decide +kernel) rfl
section
variable {p : Program} {l : Launch} {e : Env} {R : Room} {s : State} {m : MethodId} {args : Array Value} {below : List Frame} {meth : Method} {c : Code} {H : Heap} {locs : List Loc} {cells slots : Nat} {Q : State → Prop} {D : va_G} {hF : Nat} {hFr : Nat} {hFs : Nat} {hFc : Nat} {hFw : Nat} {hS : Nat} {hSs : Nat} {hG : Nat} {hGa : Nat} {hQ : Nat} {hQw : Nat} {hI : Nat} {hR : Nat} {hRh : Nat} {hRm : Nat} {hB : Nat} {hBw : Nat} {hX : Nat} {hXp : Nat} {hXg : Nat} {hG0 : Nat} {hGa0 : Nat} {hG1 : Nat} {hGa1 : Nat} {hG2 : Nat} {hGa2 : Nat} {hM : Nat} {hM1 : Nat} {hM2 : Nat} {hM3 : Nat} {hM4 : Nat} {hM5 : Nat} {hM6 : Nat} {hM7 : Nat} {hM8 : Nat} {hM9 : Nat} {hM10 : Nat} {hM11 : Nat} {tS : Nat} {tA : Nat} {cI : ClassId} {cJ : ClassId} {cG : ClassId} {fw : Int32} {fc : Int32} {fwh : Int64} {fbo : Int64} {fra : Nat → Int32} {fco : Nat → Int32} {fro : Nat → Int32} {fst : Nat → Int64} {srim : Int32} {sst : Nat → Int32} {gsz : Int32} {gac : Nat → Int32} {qln : Int32} {qwy : Nat → Int32} {ijn : Int32} {rsz : Int32} {rhi : Nat → Int32} {rmi : Nat → Int32} {bsz : Int32} {bfi : Int32} {bla : Int32} {bar : Int32} {bwi : Nat → Int64} {xpi : Nat → Int64} {gs0 : Int32} {gs1 : Int32} {gs2 : Int32} {ga0 : Nat → Int32} {ga1 : Nat → Int32} {ga2 : Nat → Int32} {mw : Int32} {mt : Int32} {mrim : Int32} {mjn : Int32} {mhm : Int32} {mpn : Int32} {mbm : Int32} {mgm : Int32} {mpi : Nat → Int64} {mbe : Nat → Int64} {mgr : Nat → Int64} {mle : Nat → Int64} {mst : Nat → Int32} {mam : Nat → Int32} {mac : Nat → Int32} {mro : Nat → Int32} {mhi : Nat → Int32} {mmi : Nat → Int32} {mtr : Nat → Int32}
-- J6_bitCount_0f7a4
def mJ6_bitCount_0f7a4 (a0 : Int32) : Int32 :=
  ((((((((a0 - ((jiushr a0 (1 : Int32)) &&& (1431655765 : Int32))) &&& (858993459 : Int32)) + ((jiushr (a0 - ((jiushr a0 (1 : Int32)) &&& (1431655765 : Int32))) (2 : Int32)) &&& (858993459 : Int32))) + (jiushr (((a0 - ((jiushr a0 (1 : Int32)) &&& (1431655765 : Int32))) &&& (858993459 : Int32)) + ((jiushr (a0 - ((jiushr a0 (1 : Int32)) &&& (1431655765 : Int32))) (2 : Int32)) &&& (858993459 : Int32))) (4 : Int32))) &&& (252645135 : Int32)) + (jiushr (((((a0 - ((jiushr a0 (1 : Int32)) &&& (1431655765 : Int32))) &&& (858993459 : Int32)) + ((jiushr (a0 - ((jiushr a0 (1 : Int32)) &&& (1431655765 : Int32))) (2 : Int32)) &&& (858993459 : Int32))) + (jiushr (((a0 - ((jiushr a0 (1 : Int32)) &&& (1431655765 : Int32))) &&& (858993459 : Int32)) + ((jiushr (a0 - ((jiushr a0 (1 : Int32)) &&& (1431655765 : Int32))) (2 : Int32)) &&& (858993459 : Int32))) (4 : Int32))) &&& (252645135 : Int32)) (8 : Int32))) + (jiushr ((((((a0 - ((jiushr a0 (1 : Int32)) &&& (1431655765 : Int32))) &&& (858993459 : Int32)) + ((jiushr (a0 - ((jiushr a0 (1 : Int32)) &&& (1431655765 : Int32))) (2 : Int32)) &&& (858993459 : Int32))) + (jiushr (((a0 - ((jiushr a0 (1 : Int32)) &&& (1431655765 : Int32))) &&& (858993459 : Int32)) + ((jiushr (a0 - ((jiushr a0 (1 : Int32)) &&& (1431655765 : Int32))) (2 : Int32)) &&& (858993459 : Int32))) (4 : Int32))) &&& (252645135 : Int32)) + (jiushr (((((a0 - ((jiushr a0 (1 : Int32)) &&& (1431655765 : Int32))) &&& (858993459 : Int32)) + ((jiushr (a0 - ((jiushr a0 (1 : Int32)) &&& (1431655765 : Int32))) (2 : Int32)) &&& (858993459 : Int32))) + (jiushr (((a0 - ((jiushr a0 (1 : Int32)) &&& (1431655765 : Int32))) &&& (858993459 : Int32)) + ((jiushr (a0 - ((jiushr a0 (1 : Int32)) &&& (1431655765 : Int32))) (2 : Int32)) &&& (858993459 : Int32))) (4 : Int32))) &&& (252645135 : Int32)) (8 : Int32))) (16 : Int32))) &&& (63 : Int32))
theorem dJ6_bitCount_0f7a4_0 : decode cJ6_bitCount_0f7a4 0 = .ok (.iload_n 0, 1) := by decide +kernel
theorem dJ6_bitCount_0f7a4_1 : decode cJ6_bitCount_0f7a4 1 = .ok (.iload_n 0, 1) := by decide +kernel
theorem dJ6_bitCount_0f7a4_2 : decode cJ6_bitCount_0f7a4 2 = .ok (.iconst 1, 1) := by decide +kernel
theorem dJ6_bitCount_0f7a4_3 : decode cJ6_bitCount_0f7a4 3 = .ok (.iushr, 1) := by decide +kernel
theorem dJ6_bitCount_0f7a4_4 : decode cJ6_bitCount_0f7a4 4 = .ok (.ldc_w 265, 3) := by decide +kernel
theorem dJ6_bitCount_0f7a4_7 : decode cJ6_bitCount_0f7a4 7 = .ok (.iand, 1) := by decide +kernel
theorem dJ6_bitCount_0f7a4_8 : decode cJ6_bitCount_0f7a4 8 = .ok (.isub, 1) := by decide +kernel
theorem dJ6_bitCount_0f7a4_9 : decode cJ6_bitCount_0f7a4 9 = .ok (.istore_n 0, 1) := by decide +kernel
theorem dJ6_bitCount_0f7a4_10 : decode cJ6_bitCount_0f7a4 10 = .ok (.iload_n 0, 1) := by decide +kernel
theorem dJ6_bitCount_0f7a4_11 : decode cJ6_bitCount_0f7a4 11 = .ok (.ldc_w 266, 3) := by decide +kernel
theorem dJ6_bitCount_0f7a4_14 : decode cJ6_bitCount_0f7a4 14 = .ok (.iand, 1) := by decide +kernel
theorem dJ6_bitCount_0f7a4_15 : decode cJ6_bitCount_0f7a4 15 = .ok (.iload_n 0, 1) := by decide +kernel
theorem dJ6_bitCount_0f7a4_16 : decode cJ6_bitCount_0f7a4 16 = .ok (.iconst 2, 1) := by decide +kernel
theorem dJ6_bitCount_0f7a4_17 : decode cJ6_bitCount_0f7a4 17 = .ok (.iushr, 1) := by decide +kernel
theorem dJ6_bitCount_0f7a4_18 : decode cJ6_bitCount_0f7a4 18 = .ok (.ldc_w 266, 3) := by decide +kernel
theorem dJ6_bitCount_0f7a4_21 : decode cJ6_bitCount_0f7a4 21 = .ok (.iand, 1) := by decide +kernel
theorem dJ6_bitCount_0f7a4_22 : decode cJ6_bitCount_0f7a4 22 = .ok (.iadd, 1) := by decide +kernel
theorem dJ6_bitCount_0f7a4_23 : decode cJ6_bitCount_0f7a4 23 = .ok (.istore_n 0, 1) := by decide +kernel
theorem dJ6_bitCount_0f7a4_24 : decode cJ6_bitCount_0f7a4 24 = .ok (.iload_n 0, 1) := by decide +kernel
theorem dJ6_bitCount_0f7a4_25 : decode cJ6_bitCount_0f7a4 25 = .ok (.iload_n 0, 1) := by decide +kernel
theorem dJ6_bitCount_0f7a4_26 : decode cJ6_bitCount_0f7a4 26 = .ok (.iconst 4, 1) := by decide +kernel
theorem dJ6_bitCount_0f7a4_27 : decode cJ6_bitCount_0f7a4 27 = .ok (.iushr, 1) := by decide +kernel
theorem dJ6_bitCount_0f7a4_28 : decode cJ6_bitCount_0f7a4 28 = .ok (.iadd, 1) := by decide +kernel
theorem dJ6_bitCount_0f7a4_29 : decode cJ6_bitCount_0f7a4 29 = .ok (.ldc_w 267, 3) := by decide +kernel
theorem dJ6_bitCount_0f7a4_32 : decode cJ6_bitCount_0f7a4 32 = .ok (.iand, 1) := by decide +kernel
theorem dJ6_bitCount_0f7a4_33 : decode cJ6_bitCount_0f7a4 33 = .ok (.istore_n 0, 1) := by decide +kernel
theorem dJ6_bitCount_0f7a4_34 : decode cJ6_bitCount_0f7a4 34 = .ok (.iload_n 0, 1) := by decide +kernel
theorem dJ6_bitCount_0f7a4_35 : decode cJ6_bitCount_0f7a4 35 = .ok (.iload_n 0, 1) := by decide +kernel
theorem dJ6_bitCount_0f7a4_36 : decode cJ6_bitCount_0f7a4 36 = .ok (.bipush 8, 2) := by decide +kernel
theorem dJ6_bitCount_0f7a4_38 : decode cJ6_bitCount_0f7a4 38 = .ok (.iushr, 1) := by decide +kernel
theorem dJ6_bitCount_0f7a4_39 : decode cJ6_bitCount_0f7a4 39 = .ok (.iadd, 1) := by decide +kernel
theorem dJ6_bitCount_0f7a4_40 : decode cJ6_bitCount_0f7a4 40 = .ok (.istore_n 0, 1) := by decide +kernel
theorem dJ6_bitCount_0f7a4_41 : decode cJ6_bitCount_0f7a4 41 = .ok (.iload_n 0, 1) := by decide +kernel
theorem dJ6_bitCount_0f7a4_42 : decode cJ6_bitCount_0f7a4 42 = .ok (.iload_n 0, 1) := by decide +kernel
theorem dJ6_bitCount_0f7a4_43 : decode cJ6_bitCount_0f7a4 43 = .ok (.bipush 16, 2) := by decide +kernel
theorem dJ6_bitCount_0f7a4_45 : decode cJ6_bitCount_0f7a4 45 = .ok (.iushr, 1) := by decide +kernel
theorem dJ6_bitCount_0f7a4_46 : decode cJ6_bitCount_0f7a4 46 = .ok (.iadd, 1) := by decide +kernel
theorem dJ6_bitCount_0f7a4_47 : decode cJ6_bitCount_0f7a4 47 = .ok (.istore_n 0, 1) := by decide +kernel
theorem dJ6_bitCount_0f7a4_48 : decode cJ6_bitCount_0f7a4 48 = .ok (.iload_n 0, 1) := by decide +kernel
theorem dJ6_bitCount_0f7a4_49 : decode cJ6_bitCount_0f7a4 49 = .ok (.bipush 63, 2) := by decide +kernel
theorem dJ6_bitCount_0f7a4_51 : decode cJ6_bitCount_0f7a4 51 = .ok (.iand, 1) := by decide +kernel
theorem dJ6_bitCount_0f7a4_52 : decode cJ6_bitCount_0f7a4 52 = .ok (.ireturn, 1) := by decide +kernel
set_option maxHeartbeats 4000000 in
set_option maxRecDepth 100000 in
theorem bJ6_bitCount_0f7a4 {a0 : Int32} {r : Int32} (hx : p.tables.exec = Jvm.exec) (hb : c.code = cJ6_bitCount_0f7a4) (hml : c.maxLocals = 1) (hown : s.vm.findClass RJ6 = some m.cls) (hts : ∀ w ∈ tw, w.before args s = true) (hR : 0 ≤ R.frames ∧ 0 ≤ R.locals ∧ cells ≤ R.cells ∧ slots ≤ R.slots) (hm : mJ6_bitCount_0f7a4 a0 = r) (ls : Array Slot) (hl : lv_has ls 1 [(0, .int a0)]) (K : ∀ (pc : Nat) (ls : Array Slot), decode cJ6_bitCount_0f7a4 pc = .ok (.ireturn, 1) → W p l e R s m args below meth c H locs cells slots Q (F0 m pc ls [.int r])) : W p l e R s m args below meth c H locs cells slots Q (F0 m 0 ls []) := by
  unfold mJ6_bitCount_0f7a4 at hm
  refine lv_iload_n hx hb dJ6_bitCount_0f7a4_0 rfl (lv_at hl 0 rfl) ?_
  refine lv_iload_n hx hb dJ6_bitCount_0f7a4_1 rfl (lv_at hl 0 rfl) ?_
  refine lv_iconst (v := (1 : Int32)) hx hb dJ6_bitCount_0f7a4_2 (by decide) ?_
  refine lv_iushr (v := (jiushr a0 (1 : Int32))) hx hb dJ6_bitCount_0f7a4_3 rfl ?_
  refine lv_ldcw (v := (1431655765 : Int32)) hx hb hown (hts _ qw_0) dJ6_bitCount_0f7a4_4 ?_
  refine lv_iand hx hb dJ6_bitCount_0f7a4_7 ?_
  refine lv_isub hx hb dJ6_bitCount_0f7a4_8 ?_
  refine lv_istore_n (lv' := [(0, .int (a0 - ((jiushr a0 (1 : Int32)) &&& (1431655765 : Int32))))]) hx hb dJ6_bitCount_0f7a4_9 rfl hl (by decide) rfl (fun ls hl => ?_)
  refine lv_iload_n hx hb dJ6_bitCount_0f7a4_10 rfl (lv_at hl 0 rfl) ?_
  refine lv_ldcw (v := (858993459 : Int32)) hx hb hown (hts _ qw_1) dJ6_bitCount_0f7a4_11 ?_
  refine lv_iand hx hb dJ6_bitCount_0f7a4_14 ?_
  refine lv_iload_n hx hb dJ6_bitCount_0f7a4_15 rfl (lv_at hl 0 rfl) ?_
  refine lv_iconst (v := (2 : Int32)) hx hb dJ6_bitCount_0f7a4_16 (by decide) ?_
  refine lv_iushr (v := (jiushr (a0 - ((jiushr a0 (1 : Int32)) &&& (1431655765 : Int32))) (2 : Int32))) hx hb dJ6_bitCount_0f7a4_17 rfl ?_
  refine lv_ldcw (v := (858993459 : Int32)) hx hb hown (hts _ qw_1) dJ6_bitCount_0f7a4_18 ?_
  refine lv_iand hx hb dJ6_bitCount_0f7a4_21 ?_
  refine lv_iadd hx hb dJ6_bitCount_0f7a4_22 ?_
  refine lv_istore_n (lv' := [(0, .int (((a0 - ((jiushr a0 (1 : Int32)) &&& (1431655765 : Int32))) &&& (858993459 : Int32)) + ((jiushr (a0 - ((jiushr a0 (1 : Int32)) &&& (1431655765 : Int32))) (2 : Int32)) &&& (858993459 : Int32))))]) hx hb dJ6_bitCount_0f7a4_23 rfl hl (by decide) rfl (fun ls hl => ?_)
  refine lv_iload_n hx hb dJ6_bitCount_0f7a4_24 rfl (lv_at hl 0 rfl) ?_
  refine lv_iload_n hx hb dJ6_bitCount_0f7a4_25 rfl (lv_at hl 0 rfl) ?_
  refine lv_iconst (v := (4 : Int32)) hx hb dJ6_bitCount_0f7a4_26 (by decide) ?_
  refine lv_iushr (v := (jiushr (((a0 - ((jiushr a0 (1 : Int32)) &&& (1431655765 : Int32))) &&& (858993459 : Int32)) + ((jiushr (a0 - ((jiushr a0 (1 : Int32)) &&& (1431655765 : Int32))) (2 : Int32)) &&& (858993459 : Int32))) (4 : Int32))) hx hb dJ6_bitCount_0f7a4_27 rfl ?_
  refine lv_iadd hx hb dJ6_bitCount_0f7a4_28 ?_
  refine lv_ldcw (v := (252645135 : Int32)) hx hb hown (hts _ qw_2) dJ6_bitCount_0f7a4_29 ?_
  refine lv_iand hx hb dJ6_bitCount_0f7a4_32 ?_
  refine lv_istore_n (lv' := [(0, .int (((((a0 - ((jiushr a0 (1 : Int32)) &&& (1431655765 : Int32))) &&& (858993459 : Int32)) + ((jiushr (a0 - ((jiushr a0 (1 : Int32)) &&& (1431655765 : Int32))) (2 : Int32)) &&& (858993459 : Int32))) + (jiushr (((a0 - ((jiushr a0 (1 : Int32)) &&& (1431655765 : Int32))) &&& (858993459 : Int32)) + ((jiushr (a0 - ((jiushr a0 (1 : Int32)) &&& (1431655765 : Int32))) (2 : Int32)) &&& (858993459 : Int32))) (4 : Int32))) &&& (252645135 : Int32)))]) hx hb dJ6_bitCount_0f7a4_33 rfl hl (by decide) rfl (fun ls hl => ?_)
  refine lv_iload_n hx hb dJ6_bitCount_0f7a4_34 rfl (lv_at hl 0 rfl) ?_
  refine lv_iload_n hx hb dJ6_bitCount_0f7a4_35 rfl (lv_at hl 0 rfl) ?_
  refine lv_bipush (v := (8 : Int32)) hx hb dJ6_bitCount_0f7a4_36 (by decide) ?_
  refine lv_iushr (v := (jiushr (((((a0 - ((jiushr a0 (1 : Int32)) &&& (1431655765 : Int32))) &&& (858993459 : Int32)) + ((jiushr (a0 - ((jiushr a0 (1 : Int32)) &&& (1431655765 : Int32))) (2 : Int32)) &&& (858993459 : Int32))) + (jiushr (((a0 - ((jiushr a0 (1 : Int32)) &&& (1431655765 : Int32))) &&& (858993459 : Int32)) + ((jiushr (a0 - ((jiushr a0 (1 : Int32)) &&& (1431655765 : Int32))) (2 : Int32)) &&& (858993459 : Int32))) (4 : Int32))) &&& (252645135 : Int32)) (8 : Int32))) hx hb dJ6_bitCount_0f7a4_38 rfl ?_
  refine lv_iadd hx hb dJ6_bitCount_0f7a4_39 ?_
  refine lv_istore_n (lv' := [(0, .int ((((((a0 - ((jiushr a0 (1 : Int32)) &&& (1431655765 : Int32))) &&& (858993459 : Int32)) + ((jiushr (a0 - ((jiushr a0 (1 : Int32)) &&& (1431655765 : Int32))) (2 : Int32)) &&& (858993459 : Int32))) + (jiushr (((a0 - ((jiushr a0 (1 : Int32)) &&& (1431655765 : Int32))) &&& (858993459 : Int32)) + ((jiushr (a0 - ((jiushr a0 (1 : Int32)) &&& (1431655765 : Int32))) (2 : Int32)) &&& (858993459 : Int32))) (4 : Int32))) &&& (252645135 : Int32)) + (jiushr (((((a0 - ((jiushr a0 (1 : Int32)) &&& (1431655765 : Int32))) &&& (858993459 : Int32)) + ((jiushr (a0 - ((jiushr a0 (1 : Int32)) &&& (1431655765 : Int32))) (2 : Int32)) &&& (858993459 : Int32))) + (jiushr (((a0 - ((jiushr a0 (1 : Int32)) &&& (1431655765 : Int32))) &&& (858993459 : Int32)) + ((jiushr (a0 - ((jiushr a0 (1 : Int32)) &&& (1431655765 : Int32))) (2 : Int32)) &&& (858993459 : Int32))) (4 : Int32))) &&& (252645135 : Int32)) (8 : Int32))))]) hx hb dJ6_bitCount_0f7a4_40 rfl hl (by decide) rfl (fun ls hl => ?_)
  refine lv_iload_n hx hb dJ6_bitCount_0f7a4_41 rfl (lv_at hl 0 rfl) ?_
  refine lv_iload_n hx hb dJ6_bitCount_0f7a4_42 rfl (lv_at hl 0 rfl) ?_
  refine lv_bipush (v := (16 : Int32)) hx hb dJ6_bitCount_0f7a4_43 (by decide) ?_
  refine lv_iushr (v := (jiushr ((((((a0 - ((jiushr a0 (1 : Int32)) &&& (1431655765 : Int32))) &&& (858993459 : Int32)) + ((jiushr (a0 - ((jiushr a0 (1 : Int32)) &&& (1431655765 : Int32))) (2 : Int32)) &&& (858993459 : Int32))) + (jiushr (((a0 - ((jiushr a0 (1 : Int32)) &&& (1431655765 : Int32))) &&& (858993459 : Int32)) + ((jiushr (a0 - ((jiushr a0 (1 : Int32)) &&& (1431655765 : Int32))) (2 : Int32)) &&& (858993459 : Int32))) (4 : Int32))) &&& (252645135 : Int32)) + (jiushr (((((a0 - ((jiushr a0 (1 : Int32)) &&& (1431655765 : Int32))) &&& (858993459 : Int32)) + ((jiushr (a0 - ((jiushr a0 (1 : Int32)) &&& (1431655765 : Int32))) (2 : Int32)) &&& (858993459 : Int32))) + (jiushr (((a0 - ((jiushr a0 (1 : Int32)) &&& (1431655765 : Int32))) &&& (858993459 : Int32)) + ((jiushr (a0 - ((jiushr a0 (1 : Int32)) &&& (1431655765 : Int32))) (2 : Int32)) &&& (858993459 : Int32))) (4 : Int32))) &&& (252645135 : Int32)) (8 : Int32))) (16 : Int32))) hx hb dJ6_bitCount_0f7a4_45 rfl ?_
  refine lv_iadd hx hb dJ6_bitCount_0f7a4_46 ?_
  refine lv_istore_n (lv' := [(0, .int (((((((a0 - ((jiushr a0 (1 : Int32)) &&& (1431655765 : Int32))) &&& (858993459 : Int32)) + ((jiushr (a0 - ((jiushr a0 (1 : Int32)) &&& (1431655765 : Int32))) (2 : Int32)) &&& (858993459 : Int32))) + (jiushr (((a0 - ((jiushr a0 (1 : Int32)) &&& (1431655765 : Int32))) &&& (858993459 : Int32)) + ((jiushr (a0 - ((jiushr a0 (1 : Int32)) &&& (1431655765 : Int32))) (2 : Int32)) &&& (858993459 : Int32))) (4 : Int32))) &&& (252645135 : Int32)) + (jiushr (((((a0 - ((jiushr a0 (1 : Int32)) &&& (1431655765 : Int32))) &&& (858993459 : Int32)) + ((jiushr (a0 - ((jiushr a0 (1 : Int32)) &&& (1431655765 : Int32))) (2 : Int32)) &&& (858993459 : Int32))) + (jiushr (((a0 - ((jiushr a0 (1 : Int32)) &&& (1431655765 : Int32))) &&& (858993459 : Int32)) + ((jiushr (a0 - ((jiushr a0 (1 : Int32)) &&& (1431655765 : Int32))) (2 : Int32)) &&& (858993459 : Int32))) (4 : Int32))) &&& (252645135 : Int32)) (8 : Int32))) + (jiushr ((((((a0 - ((jiushr a0 (1 : Int32)) &&& (1431655765 : Int32))) &&& (858993459 : Int32)) + ((jiushr (a0 - ((jiushr a0 (1 : Int32)) &&& (1431655765 : Int32))) (2 : Int32)) &&& (858993459 : Int32))) + (jiushr (((a0 - ((jiushr a0 (1 : Int32)) &&& (1431655765 : Int32))) &&& (858993459 : Int32)) + ((jiushr (a0 - ((jiushr a0 (1 : Int32)) &&& (1431655765 : Int32))) (2 : Int32)) &&& (858993459 : Int32))) (4 : Int32))) &&& (252645135 : Int32)) + (jiushr (((((a0 - ((jiushr a0 (1 : Int32)) &&& (1431655765 : Int32))) &&& (858993459 : Int32)) + ((jiushr (a0 - ((jiushr a0 (1 : Int32)) &&& (1431655765 : Int32))) (2 : Int32)) &&& (858993459 : Int32))) + (jiushr (((a0 - ((jiushr a0 (1 : Int32)) &&& (1431655765 : Int32))) &&& (858993459 : Int32)) + ((jiushr (a0 - ((jiushr a0 (1 : Int32)) &&& (1431655765 : Int32))) (2 : Int32)) &&& (858993459 : Int32))) (4 : Int32))) &&& (252645135 : Int32)) (8 : Int32))) (16 : Int32))))]) hx hb dJ6_bitCount_0f7a4_47 rfl hl (by decide) rfl (fun ls hl => ?_)
  refine lv_iload_n hx hb dJ6_bitCount_0f7a4_48 rfl (lv_at hl 0 rfl) ?_
  refine lv_bipush (v := (63 : Int32)) hx hb dJ6_bitCount_0f7a4_49 (by decide) ?_
  refine lv_iand hx hb dJ6_bitCount_0f7a4_51 ?_
  subst hm
  exact K 52 ls dJ6_bitCount_0f7a4_52
set_option maxHeartbeats 4000000 in
set_option maxRecDepth 100000 in
theorem tJ6_bitCount_0f7a4 (l : Launch) {a0 : Int32} {r : Int32} (hm : mJ6_bitCount_0f7a4 a0 = r) : Met l yJ6_bitCount_0f7a4 (.code yJ6_bitCount_0f7a4 cJ6_bitCount_0f7a4 1 (some .int) :: tw) ({ frames := 0, cells := 0, slots := 0, locals := 0 } : Room) (va_Pc [.int a0] (fun _ => True)) (vp_Si (fun q => q = r)) 0 0 (fun _ => False) := by
  refine Met.ofW (cc := cJ6_bitCount_0f7a4) (maxL := 1) (ret := (some .int)) (by decide) rfl ?_
  intro p e s m args below meth c s₁ B hml hv
  obtain ⟨rfl, -⟩ := hv
  have hx := B.exec
  have hb := B.bytes
  have hr := B.returns
  have hts : ∀ w ∈ tw, w.before _ s = true := fun w h => atoms_spec (ws := .code yJ6_bitCount_0f7a4 cJ6_bitCount_0f7a4 1 (some .int) :: tw) B.pre w (List.mem_cons_of_mem _ h)
  have hown : s.vm.findClass RJ6 = some m.cls := findClass_of_methodNamed B.named
  have hlocks := B.notSynchronized
  have hl := lv_entry ([.int a0]) (n := 1) (Nat.le_of_ble_eq_true rfl)
  rw [lg_entry_eq]
  generalize (lg_sl ([.int a0]) ++ List.replicate (1 - (lg_sl ([.int a0])).length) Slot.unset).toArray = ls at hl ⊢
  refine bJ6_bitCount_0f7a4 hx hb hml hown hts ⟨Nat.le_of_ble_eq_true rfl, Nat.le_of_ble_eq_true rfl, Nat.zero_le _, Nat.zero_le _⟩ hm ls hl (fun pc ls hd => ?_)
  exact W.iret hx hb hr (fun t ht hW => ⟨r, rfl, rfl, ht⟩) (fun q h => by cases h) hd
set_option maxHeartbeats 4000000 in
set_option maxRecDepth 100000 in
theorem kJ6_bitCount_0f7a4 {own : String} {cc : ByteArray} {nL idx pc : Nat} {ls : Array Slot} {rest : List Value} {a0 : Int32} (fx : CallFix p m c cc nL s args tw own) (hq : Cond.methodLink own idx yJ6_bitCount_0f7a4 ∈ tw) (hsz : ls.size = nL) (hR : 1 ≤ R.frames ∧ 20 ≤ R.locals ∧ cells ≤ R.cells ∧ slots ≤ R.slots) (hst : (rest.map fun v => v.category).sum ≤ 8) (hd : decode cc pc = .ok (.invokestatic idx, 3)) (kk : W p l e R s m args below meth c H locs cells slots Q (F0 m (pc + 3) ls (.int (mJ6_bitCount_0f7a4 a0) :: rest))) : W p l e R s m args below meth c H locs cells slots Q (F0 m pc ls (.int a0 :: rest)) := by
  exact vp_callSi (va_Run.run (va_runS (As := [.int a0]) (rest := rest) fx (tJ6_bitCount_0f7a4 l rfl) (va_cwS 1 fx.2.2.2.2 (tw_S2 hq qw_3 qw_4 qw_5) rfl rfl rfl (by decide +kernel) ⟨hR.1, hR.2.1⟩) ⟨fun a U g mk q => q, fun U hU hW => ⟨rfl, trivial⟩⟩ rfl rfl hsz rfl (lv_room hst) hd ⟨hR.2.2.1, hR.2.2.2⟩)) (fun r9 hr9 => by first | (rw [hr9]; exact kk) | (rw [hr9.1]; exact kk))
-- J13_bitCount_95d88
def mJ13_bitCount_95d88 (a0 : Int64) : Int32 :=
  (((((((((((a0 - ((jlushr a0 (1 : Int32)) &&& (6148914691236517205 : Int64))) &&& (3689348814741910323 : Int64)) + ((jlushr (a0 - ((jlushr a0 (1 : Int32)) &&& (6148914691236517205 : Int64))) (2 : Int32)) &&& (3689348814741910323 : Int64))) + (jlushr (((a0 - ((jlushr a0 (1 : Int32)) &&& (6148914691236517205 : Int64))) &&& (3689348814741910323 : Int64)) + ((jlushr (a0 - ((jlushr a0 (1 : Int32)) &&& (6148914691236517205 : Int64))) (2 : Int32)) &&& (3689348814741910323 : Int64))) (4 : Int32))) &&& (1085102592571150095 : Int64)) + (jlushr (((((a0 - ((jlushr a0 (1 : Int32)) &&& (6148914691236517205 : Int64))) &&& (3689348814741910323 : Int64)) + ((jlushr (a0 - ((jlushr a0 (1 : Int32)) &&& (6148914691236517205 : Int64))) (2 : Int32)) &&& (3689348814741910323 : Int64))) + (jlushr (((a0 - ((jlushr a0 (1 : Int32)) &&& (6148914691236517205 : Int64))) &&& (3689348814741910323 : Int64)) + ((jlushr (a0 - ((jlushr a0 (1 : Int32)) &&& (6148914691236517205 : Int64))) (2 : Int32)) &&& (3689348814741910323 : Int64))) (4 : Int32))) &&& (1085102592571150095 : Int64)) (8 : Int32))) + (jlushr ((((((a0 - ((jlushr a0 (1 : Int32)) &&& (6148914691236517205 : Int64))) &&& (3689348814741910323 : Int64)) + ((jlushr (a0 - ((jlushr a0 (1 : Int32)) &&& (6148914691236517205 : Int64))) (2 : Int32)) &&& (3689348814741910323 : Int64))) + (jlushr (((a0 - ((jlushr a0 (1 : Int32)) &&& (6148914691236517205 : Int64))) &&& (3689348814741910323 : Int64)) + ((jlushr (a0 - ((jlushr a0 (1 : Int32)) &&& (6148914691236517205 : Int64))) (2 : Int32)) &&& (3689348814741910323 : Int64))) (4 : Int32))) &&& (1085102592571150095 : Int64)) + (jlushr (((((a0 - ((jlushr a0 (1 : Int32)) &&& (6148914691236517205 : Int64))) &&& (3689348814741910323 : Int64)) + ((jlushr (a0 - ((jlushr a0 (1 : Int32)) &&& (6148914691236517205 : Int64))) (2 : Int32)) &&& (3689348814741910323 : Int64))) + (jlushr (((a0 - ((jlushr a0 (1 : Int32)) &&& (6148914691236517205 : Int64))) &&& (3689348814741910323 : Int64)) + ((jlushr (a0 - ((jlushr a0 (1 : Int32)) &&& (6148914691236517205 : Int64))) (2 : Int32)) &&& (3689348814741910323 : Int64))) (4 : Int32))) &&& (1085102592571150095 : Int64)) (8 : Int32))) (16 : Int32))) + (jlushr (((((((a0 - ((jlushr a0 (1 : Int32)) &&& (6148914691236517205 : Int64))) &&& (3689348814741910323 : Int64)) + ((jlushr (a0 - ((jlushr a0 (1 : Int32)) &&& (6148914691236517205 : Int64))) (2 : Int32)) &&& (3689348814741910323 : Int64))) + (jlushr (((a0 - ((jlushr a0 (1 : Int32)) &&& (6148914691236517205 : Int64))) &&& (3689348814741910323 : Int64)) + ((jlushr (a0 - ((jlushr a0 (1 : Int32)) &&& (6148914691236517205 : Int64))) (2 : Int32)) &&& (3689348814741910323 : Int64))) (4 : Int32))) &&& (1085102592571150095 : Int64)) + (jlushr (((((a0 - ((jlushr a0 (1 : Int32)) &&& (6148914691236517205 : Int64))) &&& (3689348814741910323 : Int64)) + ((jlushr (a0 - ((jlushr a0 (1 : Int32)) &&& (6148914691236517205 : Int64))) (2 : Int32)) &&& (3689348814741910323 : Int64))) + (jlushr (((a0 - ((jlushr a0 (1 : Int32)) &&& (6148914691236517205 : Int64))) &&& (3689348814741910323 : Int64)) + ((jlushr (a0 - ((jlushr a0 (1 : Int32)) &&& (6148914691236517205 : Int64))) (2 : Int32)) &&& (3689348814741910323 : Int64))) (4 : Int32))) &&& (1085102592571150095 : Int64)) (8 : Int32))) + (jlushr ((((((a0 - ((jlushr a0 (1 : Int32)) &&& (6148914691236517205 : Int64))) &&& (3689348814741910323 : Int64)) + ((jlushr (a0 - ((jlushr a0 (1 : Int32)) &&& (6148914691236517205 : Int64))) (2 : Int32)) &&& (3689348814741910323 : Int64))) + (jlushr (((a0 - ((jlushr a0 (1 : Int32)) &&& (6148914691236517205 : Int64))) &&& (3689348814741910323 : Int64)) + ((jlushr (a0 - ((jlushr a0 (1 : Int32)) &&& (6148914691236517205 : Int64))) (2 : Int32)) &&& (3689348814741910323 : Int64))) (4 : Int32))) &&& (1085102592571150095 : Int64)) + (jlushr (((((a0 - ((jlushr a0 (1 : Int32)) &&& (6148914691236517205 : Int64))) &&& (3689348814741910323 : Int64)) + ((jlushr (a0 - ((jlushr a0 (1 : Int32)) &&& (6148914691236517205 : Int64))) (2 : Int32)) &&& (3689348814741910323 : Int64))) + (jlushr (((a0 - ((jlushr a0 (1 : Int32)) &&& (6148914691236517205 : Int64))) &&& (3689348814741910323 : Int64)) + ((jlushr (a0 - ((jlushr a0 (1 : Int32)) &&& (6148914691236517205 : Int64))) (2 : Int32)) &&& (3689348814741910323 : Int64))) (4 : Int32))) &&& (1085102592571150095 : Int64)) (8 : Int32))) (16 : Int32))) (32 : Int32)))).toInt32) &&& (127 : Int32))
theorem dJ13_bitCount_95d88_0 : decode cJ13_bitCount_95d88 0 = .ok (.lload_n 0, 1) := by decide +kernel
theorem dJ13_bitCount_95d88_1 : decode cJ13_bitCount_95d88 1 = .ok (.lload_n 0, 1) := by decide +kernel
theorem dJ13_bitCount_95d88_2 : decode cJ13_bitCount_95d88 2 = .ok (.iconst 1, 1) := by decide +kernel
theorem dJ13_bitCount_95d88_3 : decode cJ13_bitCount_95d88 3 = .ok (.lushr, 1) := by decide +kernel
theorem dJ13_bitCount_95d88_4 : decode cJ13_bitCount_95d88 4 = .ok (.ldc2_w 314, 3) := by decide +kernel
theorem dJ13_bitCount_95d88_7 : decode cJ13_bitCount_95d88 7 = .ok (.land, 1) := by decide +kernel
theorem dJ13_bitCount_95d88_8 : decode cJ13_bitCount_95d88 8 = .ok (.lsub, 1) := by decide +kernel
theorem dJ13_bitCount_95d88_9 : decode cJ13_bitCount_95d88 9 = .ok (.lstore_n 0, 1) := by decide +kernel
theorem dJ13_bitCount_95d88_10 : decode cJ13_bitCount_95d88 10 = .ok (.lload_n 0, 1) := by decide +kernel
theorem dJ13_bitCount_95d88_11 : decode cJ13_bitCount_95d88 11 = .ok (.ldc2_w 316, 3) := by decide +kernel
theorem dJ13_bitCount_95d88_14 : decode cJ13_bitCount_95d88 14 = .ok (.land, 1) := by decide +kernel
theorem dJ13_bitCount_95d88_15 : decode cJ13_bitCount_95d88 15 = .ok (.lload_n 0, 1) := by decide +kernel
theorem dJ13_bitCount_95d88_16 : decode cJ13_bitCount_95d88 16 = .ok (.iconst 2, 1) := by decide +kernel
theorem dJ13_bitCount_95d88_17 : decode cJ13_bitCount_95d88 17 = .ok (.lushr, 1) := by decide +kernel
theorem dJ13_bitCount_95d88_18 : decode cJ13_bitCount_95d88 18 = .ok (.ldc2_w 316, 3) := by decide +kernel
theorem dJ13_bitCount_95d88_21 : decode cJ13_bitCount_95d88 21 = .ok (.land, 1) := by decide +kernel
theorem dJ13_bitCount_95d88_22 : decode cJ13_bitCount_95d88 22 = .ok (.ladd, 1) := by decide +kernel
theorem dJ13_bitCount_95d88_23 : decode cJ13_bitCount_95d88 23 = .ok (.lstore_n 0, 1) := by decide +kernel
theorem dJ13_bitCount_95d88_24 : decode cJ13_bitCount_95d88 24 = .ok (.lload_n 0, 1) := by decide +kernel
theorem dJ13_bitCount_95d88_25 : decode cJ13_bitCount_95d88 25 = .ok (.lload_n 0, 1) := by decide +kernel
theorem dJ13_bitCount_95d88_26 : decode cJ13_bitCount_95d88 26 = .ok (.iconst 4, 1) := by decide +kernel
theorem dJ13_bitCount_95d88_27 : decode cJ13_bitCount_95d88 27 = .ok (.lushr, 1) := by decide +kernel
theorem dJ13_bitCount_95d88_28 : decode cJ13_bitCount_95d88 28 = .ok (.ladd, 1) := by decide +kernel
theorem dJ13_bitCount_95d88_29 : decode cJ13_bitCount_95d88 29 = .ok (.ldc2_w 318, 3) := by decide +kernel
theorem dJ13_bitCount_95d88_32 : decode cJ13_bitCount_95d88 32 = .ok (.land, 1) := by decide +kernel
theorem dJ13_bitCount_95d88_33 : decode cJ13_bitCount_95d88 33 = .ok (.lstore_n 0, 1) := by decide +kernel
theorem dJ13_bitCount_95d88_34 : decode cJ13_bitCount_95d88 34 = .ok (.lload_n 0, 1) := by decide +kernel
theorem dJ13_bitCount_95d88_35 : decode cJ13_bitCount_95d88 35 = .ok (.lload_n 0, 1) := by decide +kernel
theorem dJ13_bitCount_95d88_36 : decode cJ13_bitCount_95d88 36 = .ok (.bipush 8, 2) := by decide +kernel
theorem dJ13_bitCount_95d88_38 : decode cJ13_bitCount_95d88 38 = .ok (.lushr, 1) := by decide +kernel
theorem dJ13_bitCount_95d88_39 : decode cJ13_bitCount_95d88 39 = .ok (.ladd, 1) := by decide +kernel
theorem dJ13_bitCount_95d88_40 : decode cJ13_bitCount_95d88 40 = .ok (.lstore_n 0, 1) := by decide +kernel
theorem dJ13_bitCount_95d88_41 : decode cJ13_bitCount_95d88 41 = .ok (.lload_n 0, 1) := by decide +kernel
theorem dJ13_bitCount_95d88_42 : decode cJ13_bitCount_95d88 42 = .ok (.lload_n 0, 1) := by decide +kernel
theorem dJ13_bitCount_95d88_43 : decode cJ13_bitCount_95d88 43 = .ok (.bipush 16, 2) := by decide +kernel
theorem dJ13_bitCount_95d88_45 : decode cJ13_bitCount_95d88 45 = .ok (.lushr, 1) := by decide +kernel
theorem dJ13_bitCount_95d88_46 : decode cJ13_bitCount_95d88 46 = .ok (.ladd, 1) := by decide +kernel
theorem dJ13_bitCount_95d88_47 : decode cJ13_bitCount_95d88 47 = .ok (.lstore_n 0, 1) := by decide +kernel
theorem dJ13_bitCount_95d88_48 : decode cJ13_bitCount_95d88 48 = .ok (.lload_n 0, 1) := by decide +kernel
theorem dJ13_bitCount_95d88_49 : decode cJ13_bitCount_95d88 49 = .ok (.lload_n 0, 1) := by decide +kernel
theorem dJ13_bitCount_95d88_50 : decode cJ13_bitCount_95d88 50 = .ok (.bipush 32, 2) := by decide +kernel
theorem dJ13_bitCount_95d88_52 : decode cJ13_bitCount_95d88 52 = .ok (.lushr, 1) := by decide +kernel
theorem dJ13_bitCount_95d88_53 : decode cJ13_bitCount_95d88 53 = .ok (.ladd, 1) := by decide +kernel
theorem dJ13_bitCount_95d88_54 : decode cJ13_bitCount_95d88 54 = .ok (.lstore_n 0, 1) := by decide +kernel
theorem dJ13_bitCount_95d88_55 : decode cJ13_bitCount_95d88 55 = .ok (.lload_n 0, 1) := by decide +kernel
theorem dJ13_bitCount_95d88_56 : decode cJ13_bitCount_95d88 56 = .ok (.l2i, 1) := by decide +kernel
theorem dJ13_bitCount_95d88_57 : decode cJ13_bitCount_95d88 57 = .ok (.bipush 127, 2) := by decide +kernel
theorem dJ13_bitCount_95d88_59 : decode cJ13_bitCount_95d88 59 = .ok (.iand, 1) := by decide +kernel
theorem dJ13_bitCount_95d88_60 : decode cJ13_bitCount_95d88 60 = .ok (.ireturn, 1) := by decide +kernel
set_option maxHeartbeats 4000000 in
set_option maxRecDepth 100000 in
theorem bJ13_bitCount_95d88 {a0 : Int64} {r : Int32} (hx : p.tables.exec = Jvm.exec) (hb : c.code = cJ13_bitCount_95d88) (hml : c.maxLocals = 2) (hown : s.vm.findClass RJ13 = some m.cls) (hts : ∀ w ∈ tw, w.before args s = true) (hR : 0 ≤ R.frames ∧ 0 ≤ R.locals ∧ cells ≤ R.cells ∧ slots ≤ R.slots) (hm : mJ13_bitCount_95d88 a0 = r) (ls : Array Slot) (hl : lv_has ls 2 [(0, .long a0)]) (K : ∀ (pc : Nat) (ls : Array Slot), decode cJ13_bitCount_95d88 pc = .ok (.ireturn, 1) → W p l e R s m args below meth c H locs cells slots Q (F0 m pc ls [.int r])) : W p l e R s m args below meth c H locs cells slots Q (F0 m 0 ls []) := by
  unfold mJ13_bitCount_95d88 at hm
  refine lv_lload_n hx hb dJ13_bitCount_95d88_0 rfl (lv_at hl 0 rfl) ?_
  refine lv_lload_n hx hb dJ13_bitCount_95d88_1 rfl (lv_at hl 0 rfl) ?_
  refine lv_iconst (v := (1 : Int32)) hx hb dJ13_bitCount_95d88_2 (by decide) ?_
  refine lv_lushr (v := (jlushr a0 (1 : Int32))) hx hb dJ13_bitCount_95d88_3 rfl ?_
  refine lv_ldc2 (v := (6148914691236517205 : Int64)) hx hb hown (hts _ qw_6) dJ13_bitCount_95d88_4 ?_
  refine lv_land hx hb dJ13_bitCount_95d88_7 ?_
  refine lv_lsub hx hb dJ13_bitCount_95d88_8 ?_
  refine lv_lstore_n (lv' := [(0, .long (a0 - ((jlushr a0 (1 : Int32)) &&& (6148914691236517205 : Int64))))]) hx hb dJ13_bitCount_95d88_9 rfl hl (by decide) rfl (fun ls hl => ?_)
  refine lv_lload_n hx hb dJ13_bitCount_95d88_10 rfl (lv_at hl 0 rfl) ?_
  refine lv_ldc2 (v := (3689348814741910323 : Int64)) hx hb hown (hts _ qw_7) dJ13_bitCount_95d88_11 ?_
  refine lv_land hx hb dJ13_bitCount_95d88_14 ?_
  refine lv_lload_n hx hb dJ13_bitCount_95d88_15 rfl (lv_at hl 0 rfl) ?_
  refine lv_iconst (v := (2 : Int32)) hx hb dJ13_bitCount_95d88_16 (by decide) ?_
  refine lv_lushr (v := (jlushr (a0 - ((jlushr a0 (1 : Int32)) &&& (6148914691236517205 : Int64))) (2 : Int32))) hx hb dJ13_bitCount_95d88_17 rfl ?_
  refine lv_ldc2 (v := (3689348814741910323 : Int64)) hx hb hown (hts _ qw_7) dJ13_bitCount_95d88_18 ?_
  refine lv_land hx hb dJ13_bitCount_95d88_21 ?_
  refine lv_ladd hx hb dJ13_bitCount_95d88_22 ?_
  refine lv_lstore_n (lv' := [(0, .long (((a0 - ((jlushr a0 (1 : Int32)) &&& (6148914691236517205 : Int64))) &&& (3689348814741910323 : Int64)) + ((jlushr (a0 - ((jlushr a0 (1 : Int32)) &&& (6148914691236517205 : Int64))) (2 : Int32)) &&& (3689348814741910323 : Int64))))]) hx hb dJ13_bitCount_95d88_23 rfl hl (by decide) rfl (fun ls hl => ?_)
  refine lv_lload_n hx hb dJ13_bitCount_95d88_24 rfl (lv_at hl 0 rfl) ?_
  refine lv_lload_n hx hb dJ13_bitCount_95d88_25 rfl (lv_at hl 0 rfl) ?_
  refine lv_iconst (v := (4 : Int32)) hx hb dJ13_bitCount_95d88_26 (by decide) ?_
  refine lv_lushr (v := (jlushr (((a0 - ((jlushr a0 (1 : Int32)) &&& (6148914691236517205 : Int64))) &&& (3689348814741910323 : Int64)) + ((jlushr (a0 - ((jlushr a0 (1 : Int32)) &&& (6148914691236517205 : Int64))) (2 : Int32)) &&& (3689348814741910323 : Int64))) (4 : Int32))) hx hb dJ13_bitCount_95d88_27 rfl ?_
  refine lv_ladd hx hb dJ13_bitCount_95d88_28 ?_
  refine lv_ldc2 (v := (1085102592571150095 : Int64)) hx hb hown (hts _ qw_8) dJ13_bitCount_95d88_29 ?_
  refine lv_land hx hb dJ13_bitCount_95d88_32 ?_
  refine lv_lstore_n (lv' := [(0, .long (((((a0 - ((jlushr a0 (1 : Int32)) &&& (6148914691236517205 : Int64))) &&& (3689348814741910323 : Int64)) + ((jlushr (a0 - ((jlushr a0 (1 : Int32)) &&& (6148914691236517205 : Int64))) (2 : Int32)) &&& (3689348814741910323 : Int64))) + (jlushr (((a0 - ((jlushr a0 (1 : Int32)) &&& (6148914691236517205 : Int64))) &&& (3689348814741910323 : Int64)) + ((jlushr (a0 - ((jlushr a0 (1 : Int32)) &&& (6148914691236517205 : Int64))) (2 : Int32)) &&& (3689348814741910323 : Int64))) (4 : Int32))) &&& (1085102592571150095 : Int64)))]) hx hb dJ13_bitCount_95d88_33 rfl hl (by decide) rfl (fun ls hl => ?_)
  refine lv_lload_n hx hb dJ13_bitCount_95d88_34 rfl (lv_at hl 0 rfl) ?_
  refine lv_lload_n hx hb dJ13_bitCount_95d88_35 rfl (lv_at hl 0 rfl) ?_
  refine lv_bipush (v := (8 : Int32)) hx hb dJ13_bitCount_95d88_36 (by decide) ?_
  refine lv_lushr (v := (jlushr (((((a0 - ((jlushr a0 (1 : Int32)) &&& (6148914691236517205 : Int64))) &&& (3689348814741910323 : Int64)) + ((jlushr (a0 - ((jlushr a0 (1 : Int32)) &&& (6148914691236517205 : Int64))) (2 : Int32)) &&& (3689348814741910323 : Int64))) + (jlushr (((a0 - ((jlushr a0 (1 : Int32)) &&& (6148914691236517205 : Int64))) &&& (3689348814741910323 : Int64)) + ((jlushr (a0 - ((jlushr a0 (1 : Int32)) &&& (6148914691236517205 : Int64))) (2 : Int32)) &&& (3689348814741910323 : Int64))) (4 : Int32))) &&& (1085102592571150095 : Int64)) (8 : Int32))) hx hb dJ13_bitCount_95d88_38 rfl ?_
  refine lv_ladd hx hb dJ13_bitCount_95d88_39 ?_
  refine lv_lstore_n (lv' := [(0, .long ((((((a0 - ((jlushr a0 (1 : Int32)) &&& (6148914691236517205 : Int64))) &&& (3689348814741910323 : Int64)) + ((jlushr (a0 - ((jlushr a0 (1 : Int32)) &&& (6148914691236517205 : Int64))) (2 : Int32)) &&& (3689348814741910323 : Int64))) + (jlushr (((a0 - ((jlushr a0 (1 : Int32)) &&& (6148914691236517205 : Int64))) &&& (3689348814741910323 : Int64)) + ((jlushr (a0 - ((jlushr a0 (1 : Int32)) &&& (6148914691236517205 : Int64))) (2 : Int32)) &&& (3689348814741910323 : Int64))) (4 : Int32))) &&& (1085102592571150095 : Int64)) + (jlushr (((((a0 - ((jlushr a0 (1 : Int32)) &&& (6148914691236517205 : Int64))) &&& (3689348814741910323 : Int64)) + ((jlushr (a0 - ((jlushr a0 (1 : Int32)) &&& (6148914691236517205 : Int64))) (2 : Int32)) &&& (3689348814741910323 : Int64))) + (jlushr (((a0 - ((jlushr a0 (1 : Int32)) &&& (6148914691236517205 : Int64))) &&& (3689348814741910323 : Int64)) + ((jlushr (a0 - ((jlushr a0 (1 : Int32)) &&& (6148914691236517205 : Int64))) (2 : Int32)) &&& (3689348814741910323 : Int64))) (4 : Int32))) &&& (1085102592571150095 : Int64)) (8 : Int32))))]) hx hb dJ13_bitCount_95d88_40 rfl hl (by decide) rfl (fun ls hl => ?_)
  refine lv_lload_n hx hb dJ13_bitCount_95d88_41 rfl (lv_at hl 0 rfl) ?_
  refine lv_lload_n hx hb dJ13_bitCount_95d88_42 rfl (lv_at hl 0 rfl) ?_
  refine lv_bipush (v := (16 : Int32)) hx hb dJ13_bitCount_95d88_43 (by decide) ?_
  refine lv_lushr (v := (jlushr ((((((a0 - ((jlushr a0 (1 : Int32)) &&& (6148914691236517205 : Int64))) &&& (3689348814741910323 : Int64)) + ((jlushr (a0 - ((jlushr a0 (1 : Int32)) &&& (6148914691236517205 : Int64))) (2 : Int32)) &&& (3689348814741910323 : Int64))) + (jlushr (((a0 - ((jlushr a0 (1 : Int32)) &&& (6148914691236517205 : Int64))) &&& (3689348814741910323 : Int64)) + ((jlushr (a0 - ((jlushr a0 (1 : Int32)) &&& (6148914691236517205 : Int64))) (2 : Int32)) &&& (3689348814741910323 : Int64))) (4 : Int32))) &&& (1085102592571150095 : Int64)) + (jlushr (((((a0 - ((jlushr a0 (1 : Int32)) &&& (6148914691236517205 : Int64))) &&& (3689348814741910323 : Int64)) + ((jlushr (a0 - ((jlushr a0 (1 : Int32)) &&& (6148914691236517205 : Int64))) (2 : Int32)) &&& (3689348814741910323 : Int64))) + (jlushr (((a0 - ((jlushr a0 (1 : Int32)) &&& (6148914691236517205 : Int64))) &&& (3689348814741910323 : Int64)) + ((jlushr (a0 - ((jlushr a0 (1 : Int32)) &&& (6148914691236517205 : Int64))) (2 : Int32)) &&& (3689348814741910323 : Int64))) (4 : Int32))) &&& (1085102592571150095 : Int64)) (8 : Int32))) (16 : Int32))) hx hb dJ13_bitCount_95d88_45 rfl ?_
  refine lv_ladd hx hb dJ13_bitCount_95d88_46 ?_
  refine lv_lstore_n (lv' := [(0, .long (((((((a0 - ((jlushr a0 (1 : Int32)) &&& (6148914691236517205 : Int64))) &&& (3689348814741910323 : Int64)) + ((jlushr (a0 - ((jlushr a0 (1 : Int32)) &&& (6148914691236517205 : Int64))) (2 : Int32)) &&& (3689348814741910323 : Int64))) + (jlushr (((a0 - ((jlushr a0 (1 : Int32)) &&& (6148914691236517205 : Int64))) &&& (3689348814741910323 : Int64)) + ((jlushr (a0 - ((jlushr a0 (1 : Int32)) &&& (6148914691236517205 : Int64))) (2 : Int32)) &&& (3689348814741910323 : Int64))) (4 : Int32))) &&& (1085102592571150095 : Int64)) + (jlushr (((((a0 - ((jlushr a0 (1 : Int32)) &&& (6148914691236517205 : Int64))) &&& (3689348814741910323 : Int64)) + ((jlushr (a0 - ((jlushr a0 (1 : Int32)) &&& (6148914691236517205 : Int64))) (2 : Int32)) &&& (3689348814741910323 : Int64))) + (jlushr (((a0 - ((jlushr a0 (1 : Int32)) &&& (6148914691236517205 : Int64))) &&& (3689348814741910323 : Int64)) + ((jlushr (a0 - ((jlushr a0 (1 : Int32)) &&& (6148914691236517205 : Int64))) (2 : Int32)) &&& (3689348814741910323 : Int64))) (4 : Int32))) &&& (1085102592571150095 : Int64)) (8 : Int32))) + (jlushr ((((((a0 - ((jlushr a0 (1 : Int32)) &&& (6148914691236517205 : Int64))) &&& (3689348814741910323 : Int64)) + ((jlushr (a0 - ((jlushr a0 (1 : Int32)) &&& (6148914691236517205 : Int64))) (2 : Int32)) &&& (3689348814741910323 : Int64))) + (jlushr (((a0 - ((jlushr a0 (1 : Int32)) &&& (6148914691236517205 : Int64))) &&& (3689348814741910323 : Int64)) + ((jlushr (a0 - ((jlushr a0 (1 : Int32)) &&& (6148914691236517205 : Int64))) (2 : Int32)) &&& (3689348814741910323 : Int64))) (4 : Int32))) &&& (1085102592571150095 : Int64)) + (jlushr (((((a0 - ((jlushr a0 (1 : Int32)) &&& (6148914691236517205 : Int64))) &&& (3689348814741910323 : Int64)) + ((jlushr (a0 - ((jlushr a0 (1 : Int32)) &&& (6148914691236517205 : Int64))) (2 : Int32)) &&& (3689348814741910323 : Int64))) + (jlushr (((a0 - ((jlushr a0 (1 : Int32)) &&& (6148914691236517205 : Int64))) &&& (3689348814741910323 : Int64)) + ((jlushr (a0 - ((jlushr a0 (1 : Int32)) &&& (6148914691236517205 : Int64))) (2 : Int32)) &&& (3689348814741910323 : Int64))) (4 : Int32))) &&& (1085102592571150095 : Int64)) (8 : Int32))) (16 : Int32))))]) hx hb dJ13_bitCount_95d88_47 rfl hl (by decide) rfl (fun ls hl => ?_)
  refine lv_lload_n hx hb dJ13_bitCount_95d88_48 rfl (lv_at hl 0 rfl) ?_
  refine lv_lload_n hx hb dJ13_bitCount_95d88_49 rfl (lv_at hl 0 rfl) ?_
  refine lv_bipush (v := (32 : Int32)) hx hb dJ13_bitCount_95d88_50 (by decide) ?_
  refine lv_lushr (v := (jlushr (((((((a0 - ((jlushr a0 (1 : Int32)) &&& (6148914691236517205 : Int64))) &&& (3689348814741910323 : Int64)) + ((jlushr (a0 - ((jlushr a0 (1 : Int32)) &&& (6148914691236517205 : Int64))) (2 : Int32)) &&& (3689348814741910323 : Int64))) + (jlushr (((a0 - ((jlushr a0 (1 : Int32)) &&& (6148914691236517205 : Int64))) &&& (3689348814741910323 : Int64)) + ((jlushr (a0 - ((jlushr a0 (1 : Int32)) &&& (6148914691236517205 : Int64))) (2 : Int32)) &&& (3689348814741910323 : Int64))) (4 : Int32))) &&& (1085102592571150095 : Int64)) + (jlushr (((((a0 - ((jlushr a0 (1 : Int32)) &&& (6148914691236517205 : Int64))) &&& (3689348814741910323 : Int64)) + ((jlushr (a0 - ((jlushr a0 (1 : Int32)) &&& (6148914691236517205 : Int64))) (2 : Int32)) &&& (3689348814741910323 : Int64))) + (jlushr (((a0 - ((jlushr a0 (1 : Int32)) &&& (6148914691236517205 : Int64))) &&& (3689348814741910323 : Int64)) + ((jlushr (a0 - ((jlushr a0 (1 : Int32)) &&& (6148914691236517205 : Int64))) (2 : Int32)) &&& (3689348814741910323 : Int64))) (4 : Int32))) &&& (1085102592571150095 : Int64)) (8 : Int32))) + (jlushr ((((((a0 - ((jlushr a0 (1 : Int32)) &&& (6148914691236517205 : Int64))) &&& (3689348814741910323 : Int64)) + ((jlushr (a0 - ((jlushr a0 (1 : Int32)) &&& (6148914691236517205 : Int64))) (2 : Int32)) &&& (3689348814741910323 : Int64))) + (jlushr (((a0 - ((jlushr a0 (1 : Int32)) &&& (6148914691236517205 : Int64))) &&& (3689348814741910323 : Int64)) + ((jlushr (a0 - ((jlushr a0 (1 : Int32)) &&& (6148914691236517205 : Int64))) (2 : Int32)) &&& (3689348814741910323 : Int64))) (4 : Int32))) &&& (1085102592571150095 : Int64)) + (jlushr (((((a0 - ((jlushr a0 (1 : Int32)) &&& (6148914691236517205 : Int64))) &&& (3689348814741910323 : Int64)) + ((jlushr (a0 - ((jlushr a0 (1 : Int32)) &&& (6148914691236517205 : Int64))) (2 : Int32)) &&& (3689348814741910323 : Int64))) + (jlushr (((a0 - ((jlushr a0 (1 : Int32)) &&& (6148914691236517205 : Int64))) &&& (3689348814741910323 : Int64)) + ((jlushr (a0 - ((jlushr a0 (1 : Int32)) &&& (6148914691236517205 : Int64))) (2 : Int32)) &&& (3689348814741910323 : Int64))) (4 : Int32))) &&& (1085102592571150095 : Int64)) (8 : Int32))) (16 : Int32))) (32 : Int32))) hx hb dJ13_bitCount_95d88_52 rfl ?_
  refine lv_ladd hx hb dJ13_bitCount_95d88_53 ?_
  refine lv_lstore_n (lv' := [(0, .long ((((((((a0 - ((jlushr a0 (1 : Int32)) &&& (6148914691236517205 : Int64))) &&& (3689348814741910323 : Int64)) + ((jlushr (a0 - ((jlushr a0 (1 : Int32)) &&& (6148914691236517205 : Int64))) (2 : Int32)) &&& (3689348814741910323 : Int64))) + (jlushr (((a0 - ((jlushr a0 (1 : Int32)) &&& (6148914691236517205 : Int64))) &&& (3689348814741910323 : Int64)) + ((jlushr (a0 - ((jlushr a0 (1 : Int32)) &&& (6148914691236517205 : Int64))) (2 : Int32)) &&& (3689348814741910323 : Int64))) (4 : Int32))) &&& (1085102592571150095 : Int64)) + (jlushr (((((a0 - ((jlushr a0 (1 : Int32)) &&& (6148914691236517205 : Int64))) &&& (3689348814741910323 : Int64)) + ((jlushr (a0 - ((jlushr a0 (1 : Int32)) &&& (6148914691236517205 : Int64))) (2 : Int32)) &&& (3689348814741910323 : Int64))) + (jlushr (((a0 - ((jlushr a0 (1 : Int32)) &&& (6148914691236517205 : Int64))) &&& (3689348814741910323 : Int64)) + ((jlushr (a0 - ((jlushr a0 (1 : Int32)) &&& (6148914691236517205 : Int64))) (2 : Int32)) &&& (3689348814741910323 : Int64))) (4 : Int32))) &&& (1085102592571150095 : Int64)) (8 : Int32))) + (jlushr ((((((a0 - ((jlushr a0 (1 : Int32)) &&& (6148914691236517205 : Int64))) &&& (3689348814741910323 : Int64)) + ((jlushr (a0 - ((jlushr a0 (1 : Int32)) &&& (6148914691236517205 : Int64))) (2 : Int32)) &&& (3689348814741910323 : Int64))) + (jlushr (((a0 - ((jlushr a0 (1 : Int32)) &&& (6148914691236517205 : Int64))) &&& (3689348814741910323 : Int64)) + ((jlushr (a0 - ((jlushr a0 (1 : Int32)) &&& (6148914691236517205 : Int64))) (2 : Int32)) &&& (3689348814741910323 : Int64))) (4 : Int32))) &&& (1085102592571150095 : Int64)) + (jlushr (((((a0 - ((jlushr a0 (1 : Int32)) &&& (6148914691236517205 : Int64))) &&& (3689348814741910323 : Int64)) + ((jlushr (a0 - ((jlushr a0 (1 : Int32)) &&& (6148914691236517205 : Int64))) (2 : Int32)) &&& (3689348814741910323 : Int64))) + (jlushr (((a0 - ((jlushr a0 (1 : Int32)) &&& (6148914691236517205 : Int64))) &&& (3689348814741910323 : Int64)) + ((jlushr (a0 - ((jlushr a0 (1 : Int32)) &&& (6148914691236517205 : Int64))) (2 : Int32)) &&& (3689348814741910323 : Int64))) (4 : Int32))) &&& (1085102592571150095 : Int64)) (8 : Int32))) (16 : Int32))) + (jlushr (((((((a0 - ((jlushr a0 (1 : Int32)) &&& (6148914691236517205 : Int64))) &&& (3689348814741910323 : Int64)) + ((jlushr (a0 - ((jlushr a0 (1 : Int32)) &&& (6148914691236517205 : Int64))) (2 : Int32)) &&& (3689348814741910323 : Int64))) + (jlushr (((a0 - ((jlushr a0 (1 : Int32)) &&& (6148914691236517205 : Int64))) &&& (3689348814741910323 : Int64)) + ((jlushr (a0 - ((jlushr a0 (1 : Int32)) &&& (6148914691236517205 : Int64))) (2 : Int32)) &&& (3689348814741910323 : Int64))) (4 : Int32))) &&& (1085102592571150095 : Int64)) + (jlushr (((((a0 - ((jlushr a0 (1 : Int32)) &&& (6148914691236517205 : Int64))) &&& (3689348814741910323 : Int64)) + ((jlushr (a0 - ((jlushr a0 (1 : Int32)) &&& (6148914691236517205 : Int64))) (2 : Int32)) &&& (3689348814741910323 : Int64))) + (jlushr (((a0 - ((jlushr a0 (1 : Int32)) &&& (6148914691236517205 : Int64))) &&& (3689348814741910323 : Int64)) + ((jlushr (a0 - ((jlushr a0 (1 : Int32)) &&& (6148914691236517205 : Int64))) (2 : Int32)) &&& (3689348814741910323 : Int64))) (4 : Int32))) &&& (1085102592571150095 : Int64)) (8 : Int32))) + (jlushr ((((((a0 - ((jlushr a0 (1 : Int32)) &&& (6148914691236517205 : Int64))) &&& (3689348814741910323 : Int64)) + ((jlushr (a0 - ((jlushr a0 (1 : Int32)) &&& (6148914691236517205 : Int64))) (2 : Int32)) &&& (3689348814741910323 : Int64))) + (jlushr (((a0 - ((jlushr a0 (1 : Int32)) &&& (6148914691236517205 : Int64))) &&& (3689348814741910323 : Int64)) + ((jlushr (a0 - ((jlushr a0 (1 : Int32)) &&& (6148914691236517205 : Int64))) (2 : Int32)) &&& (3689348814741910323 : Int64))) (4 : Int32))) &&& (1085102592571150095 : Int64)) + (jlushr (((((a0 - ((jlushr a0 (1 : Int32)) &&& (6148914691236517205 : Int64))) &&& (3689348814741910323 : Int64)) + ((jlushr (a0 - ((jlushr a0 (1 : Int32)) &&& (6148914691236517205 : Int64))) (2 : Int32)) &&& (3689348814741910323 : Int64))) + (jlushr (((a0 - ((jlushr a0 (1 : Int32)) &&& (6148914691236517205 : Int64))) &&& (3689348814741910323 : Int64)) + ((jlushr (a0 - ((jlushr a0 (1 : Int32)) &&& (6148914691236517205 : Int64))) (2 : Int32)) &&& (3689348814741910323 : Int64))) (4 : Int32))) &&& (1085102592571150095 : Int64)) (8 : Int32))) (16 : Int32))) (32 : Int32))))]) hx hb dJ13_bitCount_95d88_54 rfl hl (by decide) rfl (fun ls hl => ?_)
  refine lv_lload_n hx hb dJ13_bitCount_95d88_55 rfl (lv_at hl 0 rfl) ?_
  refine lv_l2i (v := ((((((((((a0 - ((jlushr a0 (1 : Int32)) &&& (6148914691236517205 : Int64))) &&& (3689348814741910323 : Int64)) + ((jlushr (a0 - ((jlushr a0 (1 : Int32)) &&& (6148914691236517205 : Int64))) (2 : Int32)) &&& (3689348814741910323 : Int64))) + (jlushr (((a0 - ((jlushr a0 (1 : Int32)) &&& (6148914691236517205 : Int64))) &&& (3689348814741910323 : Int64)) + ((jlushr (a0 - ((jlushr a0 (1 : Int32)) &&& (6148914691236517205 : Int64))) (2 : Int32)) &&& (3689348814741910323 : Int64))) (4 : Int32))) &&& (1085102592571150095 : Int64)) + (jlushr (((((a0 - ((jlushr a0 (1 : Int32)) &&& (6148914691236517205 : Int64))) &&& (3689348814741910323 : Int64)) + ((jlushr (a0 - ((jlushr a0 (1 : Int32)) &&& (6148914691236517205 : Int64))) (2 : Int32)) &&& (3689348814741910323 : Int64))) + (jlushr (((a0 - ((jlushr a0 (1 : Int32)) &&& (6148914691236517205 : Int64))) &&& (3689348814741910323 : Int64)) + ((jlushr (a0 - ((jlushr a0 (1 : Int32)) &&& (6148914691236517205 : Int64))) (2 : Int32)) &&& (3689348814741910323 : Int64))) (4 : Int32))) &&& (1085102592571150095 : Int64)) (8 : Int32))) + (jlushr ((((((a0 - ((jlushr a0 (1 : Int32)) &&& (6148914691236517205 : Int64))) &&& (3689348814741910323 : Int64)) + ((jlushr (a0 - ((jlushr a0 (1 : Int32)) &&& (6148914691236517205 : Int64))) (2 : Int32)) &&& (3689348814741910323 : Int64))) + (jlushr (((a0 - ((jlushr a0 (1 : Int32)) &&& (6148914691236517205 : Int64))) &&& (3689348814741910323 : Int64)) + ((jlushr (a0 - ((jlushr a0 (1 : Int32)) &&& (6148914691236517205 : Int64))) (2 : Int32)) &&& (3689348814741910323 : Int64))) (4 : Int32))) &&& (1085102592571150095 : Int64)) + (jlushr (((((a0 - ((jlushr a0 (1 : Int32)) &&& (6148914691236517205 : Int64))) &&& (3689348814741910323 : Int64)) + ((jlushr (a0 - ((jlushr a0 (1 : Int32)) &&& (6148914691236517205 : Int64))) (2 : Int32)) &&& (3689348814741910323 : Int64))) + (jlushr (((a0 - ((jlushr a0 (1 : Int32)) &&& (6148914691236517205 : Int64))) &&& (3689348814741910323 : Int64)) + ((jlushr (a0 - ((jlushr a0 (1 : Int32)) &&& (6148914691236517205 : Int64))) (2 : Int32)) &&& (3689348814741910323 : Int64))) (4 : Int32))) &&& (1085102592571150095 : Int64)) (8 : Int32))) (16 : Int32))) + (jlushr (((((((a0 - ((jlushr a0 (1 : Int32)) &&& (6148914691236517205 : Int64))) &&& (3689348814741910323 : Int64)) + ((jlushr (a0 - ((jlushr a0 (1 : Int32)) &&& (6148914691236517205 : Int64))) (2 : Int32)) &&& (3689348814741910323 : Int64))) + (jlushr (((a0 - ((jlushr a0 (1 : Int32)) &&& (6148914691236517205 : Int64))) &&& (3689348814741910323 : Int64)) + ((jlushr (a0 - ((jlushr a0 (1 : Int32)) &&& (6148914691236517205 : Int64))) (2 : Int32)) &&& (3689348814741910323 : Int64))) (4 : Int32))) &&& (1085102592571150095 : Int64)) + (jlushr (((((a0 - ((jlushr a0 (1 : Int32)) &&& (6148914691236517205 : Int64))) &&& (3689348814741910323 : Int64)) + ((jlushr (a0 - ((jlushr a0 (1 : Int32)) &&& (6148914691236517205 : Int64))) (2 : Int32)) &&& (3689348814741910323 : Int64))) + (jlushr (((a0 - ((jlushr a0 (1 : Int32)) &&& (6148914691236517205 : Int64))) &&& (3689348814741910323 : Int64)) + ((jlushr (a0 - ((jlushr a0 (1 : Int32)) &&& (6148914691236517205 : Int64))) (2 : Int32)) &&& (3689348814741910323 : Int64))) (4 : Int32))) &&& (1085102592571150095 : Int64)) (8 : Int32))) + (jlushr ((((((a0 - ((jlushr a0 (1 : Int32)) &&& (6148914691236517205 : Int64))) &&& (3689348814741910323 : Int64)) + ((jlushr (a0 - ((jlushr a0 (1 : Int32)) &&& (6148914691236517205 : Int64))) (2 : Int32)) &&& (3689348814741910323 : Int64))) + (jlushr (((a0 - ((jlushr a0 (1 : Int32)) &&& (6148914691236517205 : Int64))) &&& (3689348814741910323 : Int64)) + ((jlushr (a0 - ((jlushr a0 (1 : Int32)) &&& (6148914691236517205 : Int64))) (2 : Int32)) &&& (3689348814741910323 : Int64))) (4 : Int32))) &&& (1085102592571150095 : Int64)) + (jlushr (((((a0 - ((jlushr a0 (1 : Int32)) &&& (6148914691236517205 : Int64))) &&& (3689348814741910323 : Int64)) + ((jlushr (a0 - ((jlushr a0 (1 : Int32)) &&& (6148914691236517205 : Int64))) (2 : Int32)) &&& (3689348814741910323 : Int64))) + (jlushr (((a0 - ((jlushr a0 (1 : Int32)) &&& (6148914691236517205 : Int64))) &&& (3689348814741910323 : Int64)) + ((jlushr (a0 - ((jlushr a0 (1 : Int32)) &&& (6148914691236517205 : Int64))) (2 : Int32)) &&& (3689348814741910323 : Int64))) (4 : Int32))) &&& (1085102592571150095 : Int64)) (8 : Int32))) (16 : Int32))) (32 : Int32)))).toInt32)) hx hb dJ13_bitCount_95d88_56 rfl ?_
  refine lv_bipush (v := (127 : Int32)) hx hb dJ13_bitCount_95d88_57 (by decide) ?_
  refine lv_iand hx hb dJ13_bitCount_95d88_59 ?_
  subst hm
  exact K 60 ls dJ13_bitCount_95d88_60
set_option maxHeartbeats 4000000 in
set_option maxRecDepth 100000 in
theorem tJ13_bitCount_95d88 (l : Launch) {a0 : Int64} {r : Int32} (hm : mJ13_bitCount_95d88 a0 = r) : Met l yJ13_bitCount_95d88 (.code yJ13_bitCount_95d88 cJ13_bitCount_95d88 2 (some .int) :: tw) ({ frames := 0, cells := 0, slots := 0, locals := 0 } : Room) (va_Pc [.long a0] (fun _ => True)) (vp_Si (fun q => q = r)) 0 0 (fun _ => False) := by
  refine Met.ofW (cc := cJ13_bitCount_95d88) (maxL := 2) (ret := (some .int)) (by decide) rfl ?_
  intro p e s m args below meth c s₁ B hml hv
  obtain ⟨rfl, -⟩ := hv
  have hx := B.exec
  have hb := B.bytes
  have hr := B.returns
  have hts : ∀ w ∈ tw, w.before _ s = true := fun w h => atoms_spec (ws := .code yJ13_bitCount_95d88 cJ13_bitCount_95d88 2 (some .int) :: tw) B.pre w (List.mem_cons_of_mem _ h)
  have hown : s.vm.findClass RJ13 = some m.cls := findClass_of_methodNamed B.named
  have hlocks := B.notSynchronized
  have hl := lv_entry ([.long a0]) (n := 2) (Nat.le_of_ble_eq_true rfl)
  rw [lg_entry_eq]
  generalize (lg_sl ([.long a0]) ++ List.replicate (2 - (lg_sl ([.long a0])).length) Slot.unset).toArray = ls at hl ⊢
  refine bJ13_bitCount_95d88 hx hb hml hown hts ⟨Nat.le_of_ble_eq_true rfl, Nat.le_of_ble_eq_true rfl, Nat.zero_le _, Nat.zero_le _⟩ hm ls hl (fun pc ls hd => ?_)
  exact W.iret hx hb hr (fun t ht hW => ⟨r, rfl, rfl, ht⟩) (fun q h => by cases h) hd
set_option maxHeartbeats 4000000 in
set_option maxRecDepth 100000 in
theorem kJ13_bitCount_95d88 {own : String} {cc : ByteArray} {nL idx pc : Nat} {ls : Array Slot} {rest : List Value} {a0 : Int64} (fx : CallFix p m c cc nL s args tw own) (hq : Cond.methodLink own idx yJ13_bitCount_95d88 ∈ tw) (hsz : ls.size = nL) (hR : 1 ≤ R.frames ∧ 21 ≤ R.locals ∧ cells ≤ R.cells ∧ slots ≤ R.slots) (hst : (rest.map fun v => v.category).sum ≤ 8) (hd : decode cc pc = .ok (.invokestatic idx, 3)) (kk : W p l e R s m args below meth c H locs cells slots Q (F0 m (pc + 3) ls (.int (mJ13_bitCount_95d88 a0) :: rest))) : W p l e R s m args below meth c H locs cells slots Q (F0 m pc ls (.long a0 :: rest)) := by
  exact vp_callSi (va_Run.run (va_runS (As := [.long a0]) (rest := rest) fx (tJ13_bitCount_95d88 l rfl) (va_cwS 1 fx.2.2.2.2 (tw_S2 hq qw_9 qw_10 qw_11) rfl rfl rfl (by decide +kernel) ⟨hR.1, hR.2.1⟩) ⟨fun a U g mk q => q, fun U hU hW => ⟨rfl, trivial⟩⟩ rfl rfl hsz rfl (lv_room hst) hd ⟨hR.2.2.1, hR.2.2.2⟩)) (fun r9 hr9 => by first | (rw [hr9]; exact kk) | (rw [hr9.1]; exact kk))
def mJ9_min_7cf53 (a0 a1 : Int32) : Int32 := if a1 < a0 then a1 else a0
theorem kJ9_min_7cf53 {own : String} {cc : ByteArray} {nL idx pc : Nat} {ls : Array Slot} {rest : List Value} {a0 a1 : Int32} (fx : CallFix p m c cc nL s args tw own) (hq : Cond.methodLink own idx yJ9_min_7cf53 ∈ tw) (hsz : ls.size = nL) (hR : 1 ≤ R.frames ∧ 21 ≤ R.locals ∧ cells ≤ R.cells ∧ slots ≤ R.slots) (hst : (rest.map fun v => v.category).sum ≤ 8) (hd : decode cc pc = .ok (.invokestatic idx, 3)) (kk : W p l e R s m args below meth c H locs cells slots Q (F0 m (pc + 3) ls (.int (mJ9_min_7cf53 a0 a1) :: rest))) : W p l e R s m args below meth c H locs cells slots Q (F0 m pc ls (.int a1 :: .int a0 :: rest)) :=
  va_mmin fx.1 fx.2.1 (fx.2.2.1.trans hsz.symm) fx.2.2.2.1 (fx.2.2.2.2 _ hq) (fx.2.2.2.2 _ qw_12) (fx.2.2.2.2 _ qw_13) (fx.2.2.2.2 _ qw_14) hR.1 (by omega) hR.2.2.1 hR.2.2.2 hd kk
end
end
section
theorem qw_15 : Cond.fieldLink RX1 33 "WornShapes$Field" "cells" "I" ∈ tw := tw_of (by decide +kernel) rfl
theorem qw_16 : Cond.instanceMethod yX1_isCell ∈ tw := tw_of (by decide +kernel) rfl
theorem qw_17 : Cond.selects RX1 yX1_isCell yX1_isCell ∈ tw := tw_of (by decide +kernel) rfl
theorem qw_18 : Cond.initialized RX1 ∈ tw := tw_of (by decide +kernel) rfl
theorem qw_19 : Cond.code yX1_isCell cX1_isCell 2 (some .boolean) ∈ tw := tw_of (by decide +kernel) rfl
theorem qw_20 : Cond.fieldLink RX1 11 "WornShapes$Field" "raises" "[I" ∈ tw := tw_of (by decide +kernel) rfl
theorem qw_21 : Cond.fieldLink RX1 15 "WornShapes$Field" "starts" "[J" ∈ tw := tw_of (by decide +kernel) rfl
theorem qw_22 : Cond.instanceMethod yX1_ahead ∈ tw := tw_of (by decide +kernel) rfl
theorem qw_23 : Cond.selects RX1 yX1_ahead yX1_ahead ∈ tw := tw_of (by decide +kernel) rfl
theorem qw_24 : Cond.code yX1_ahead cX1_ahead 7 (some .long) ∈ tw := tw_of (by decide +kernel) rfl
theorem qw_25 : Cond.instanceMethod yX1_behind ∈ tw := tw_of (by decide +kernel) rfl
theorem qw_26 : Cond.selects RX1 yX1_behind yX1_behind ∈ tw := tw_of (by decide +kernel) rfl
theorem qw_27 : Cond.code yX1_behind cX1_behind 5 (some .long) ∈ tw := tw_of (by decide +kernel) rfl
theorem qw_28 : Cond.methodLink RX1 48 yX1_ahead ∈ tw := tw_of (by decide +kernel) rfl
theorem qw_29 : Cond.instanceMethod yX1_grown ∈ tw := tw_of (by decide +kernel) rfl
theorem qw_30 : Cond.selects RX1 yX1_grown yX1_grown ∈ tw := tw_of (by decide +kernel) rfl
theorem qw_31 : Cond.code yX1_grown cX1_grown 7 (some .long) ∈ tw := tw_of (by decide +kernel) rfl
theorem qw_32 : Cond.fieldLink RX1 36 "WornShapes$Field" "whole" "J" ∈ tw := tw_of (by decide +kernel) rfl
theorem qw_33 : Cond.methodLink RX1 52 yX1_behind ∈ tw := tw_of (by decide +kernel) rfl
theorem qw_34 : Cond.constantLong RX1 46 (-1) ∈ tw := tw_of (by decide +kernel) rfl
theorem qw_35 : Cond.instanceMethod yX1_worn ∈ tw := tw_of (by decide +kernel) rfl
theorem qw_36 : Cond.selects RX1 yX1_worn yX1_worn ∈ tw := tw_of (by decide +kernel) rfl
theorem qw_37 : Cond.code yX1_worn cX1_worn 8 (some .long) ∈ tw := tw_of (by decide +kernel) rfl
theorem qw_38 : Cond.fieldLink RX1 19 "WornShapes$Field" "columns" "[I" ∈ tw := tw_of (by decide +kernel) rfl
theorem qw_39 : Cond.fieldLink RX1 22 "WornShapes$Field" "rows" "[I" ∈ tw := tw_of (by decide +kernel) rfl
theorem qw_40 : Cond.fieldLink RX1 29 "WornShapes$Field" "width" "I" ∈ tw := tw_of (by decide +kernel) rfl
theorem qw_41 : Cond.instanceMethod yX1_rectangle ∈ tw := tw_of (by decide +kernel) rfl
theorem qw_42 : Cond.selects RX1 yX1_rectangle yX1_rectangle ∈ tw := tw_of (by decide +kernel) rfl
theorem qw_43 : Cond.code yX1_rectangle cX1_rectangle 10 (some .long) ∈ tw := tw_of (by decide +kernel) rfl
section
variable {p : Program} {l : Launch} {e : Env} {R : Room} {s : State} {m : MethodId} {args : Array Value} {below : List Frame} {meth : Method} {c : Code} {H : Heap} {locs : List Loc} {cells slots : Nat} {Q : State → Prop} {D : va_G} {hF : Nat} {hFr : Nat} {hFs : Nat} {hFc : Nat} {hFw : Nat} {hS : Nat} {hSs : Nat} {hG : Nat} {hGa : Nat} {hQ : Nat} {hQw : Nat} {hI : Nat} {hR : Nat} {hRh : Nat} {hRm : Nat} {hB : Nat} {hBw : Nat} {hX : Nat} {hXp : Nat} {hXg : Nat} {hG0 : Nat} {hGa0 : Nat} {hG1 : Nat} {hGa1 : Nat} {hG2 : Nat} {hGa2 : Nat} {hM : Nat} {hM1 : Nat} {hM2 : Nat} {hM3 : Nat} {hM4 : Nat} {hM5 : Nat} {hM6 : Nat} {hM7 : Nat} {hM8 : Nat} {hM9 : Nat} {hM10 : Nat} {hM11 : Nat} {tS : Nat} {tA : Nat} {cI : ClassId} {cJ : ClassId} {cG : ClassId} {fw : Int32} {fc : Int32} {fwh : Int64} {fbo : Int64} {fra : Nat → Int32} {fco : Nat → Int32} {fro : Nat → Int32} {fst : Nat → Int64} {srim : Int32} {sst : Nat → Int32} {gsz : Int32} {gac : Nat → Int32} {qln : Int32} {qwy : Nat → Int32} {ijn : Int32} {rsz : Int32} {rhi : Nat → Int32} {rmi : Nat → Int32} {bsz : Int32} {bfi : Int32} {bla : Int32} {bar : Int32} {bwi : Nat → Int64} {xpi : Nat → Int64} {gs0 : Int32} {gs1 : Int32} {gs2 : Int32} {ga0 : Nat → Int32} {ga1 : Nat → Int32} {ga2 : Nat → Int32} {mw : Int32} {mt : Int32} {mrim : Int32} {mjn : Int32} {mhm : Int32} {mpn : Int32} {mbm : Int32} {mgm : Int32} {mpi : Nat → Int64} {mbe : Nat → Int64} {mgr : Nat → Int64} {mle : Nat → Int64} {mst : Nat → Int32} {mam : Nat → Int32} {mac : Nat → Int32} {mro : Nat → Int32} {mhi : Nat → Int32} {mmi : Nat → Int32} {mtr : Nat → Int32}
-- X1_isCell
def mX1_isCell (fc : Int32) (a1 : Int32) : Int32 :=
  (if a1 < 0 then (0 : Int32) else (if fc ≤ a1 then (0 : Int32) else (1 : Int32)))
theorem dX1_isCell_0 : decode cX1_isCell 0 = .ok (.iload_n 1, 1) := by decide +kernel
theorem dX1_isCell_1 : decode cX1_isCell 1 = .ok (.ifCond .lt 15, 3) := by decide +kernel
theorem dX1_isCell_4 : decode cX1_isCell 4 = .ok (.iload_n 1, 1) := by decide +kernel
theorem dX1_isCell_5 : decode cX1_isCell 5 = .ok (.aload_n 0, 1) := by decide +kernel
theorem dX1_isCell_6 : decode cX1_isCell 6 = .ok (.getfield 33, 3) := by decide +kernel
theorem dX1_isCell_9 : decode cX1_isCell 9 = .ok (.if_icmp .ge 7, 3) := by decide +kernel
theorem dX1_isCell_12 : decode cX1_isCell 12 = .ok (.iconst 1, 1) := by decide +kernel
theorem dX1_isCell_13 : decode cX1_isCell 13 = .ok (.goto 4, 3) := by decide +kernel
theorem dX1_isCell_16 : decode cX1_isCell 16 = .ok (.iconst 0, 1) := by decide +kernel
theorem dX1_isCell_17 : decode cX1_isCell 17 = .ok (.ireturn, 1) := by decide +kernel
set_option maxHeartbeats 4000000 in
set_option maxRecDepth 100000 in
theorem bX1_isCell {a1 : Int32} {r : Int32} (hx : p.tables.exec = Jvm.exec) (hb : c.code = cX1_isCell) (hml : c.maxLocals = 2) (hown : s.vm.findClass RX1 = some m.cls) (hts : ∀ w ∈ tw, w.before args s = true) (hP : va_P D vwCl (wdF cI cJ hF hFr hFs hFc hFw fw fc fwh fbo fra fst fco fro) H) (hK : va_K D vwCl [(cI, .int), (cJ, .long)] s) (hR : 0 ≤ R.frames ∧ 0 ≤ R.locals ∧ cells ≤ R.cells ∧ slots ≤ R.slots) (hm : mX1_isCell fc a1 = r) (ls : Array Slot) (hl : lv_has ls 2 [(0, .ref hF), (1, .int a1)]) (K : ∀ (pc : Nat) (ls : Array Slot), decode cX1_isCell pc = .ok (.ireturn, 1) → narrow .boolean (.int r) = .int r → W p l e R s m args below meth c H locs cells slots Q (F0 m pc ls [.int r])) : W p l e R s m args below meth c H locs cells slots Q (F0 m 0 ls []) := by
  unfold mX1_isCell at hm
  refine lv_iload_n hx hb dX1_isCell_0 rfl (lv_at hl 1 rfl) ?_
  refine lv_if_lt (tgt := 16) hx hb dX1_isCell_1 (by decide) (fun c1 => ?_) (fun c1 => ?_)
  · rw [if_pos c1] at hm
    refine lv_iconst (v := (0 : Int32)) hx hb dX1_isCell_16 (by decide) ?_
    subst hm
    exact K 17 ls dX1_isCell_17 rfl
  · rw [if_neg c1] at hm
    refine lv_iload_n hx hb dX1_isCell_4 rfl (lv_at hl 1 rfl) ?_
    refine lv_aload_n hx hb dX1_isCell_5 rfl (lv_at hl 0 rfl) ?_
    refine va_get (D := D) (ci := 1) (v := .int fc) (C := RX1) (T := TX1) (N := 8) hx hb hts tnX1 hown hK hP 0 rfl rfl 1 (by decide) (hts _ qw_15) (fun _ h9 => h9) rfl dX1_isCell_6 ?_
    refine lv_icmp_ge (tgt := 16) hx hb dX1_isCell_9 (by decide) (fun c2 => ?_) (fun c2 => ?_)
    · rw [if_pos c2] at hm
      refine lv_iconst (v := (0 : Int32)) hx hb dX1_isCell_16 (by decide) ?_
      subst hm
      exact K 17 ls dX1_isCell_17 rfl
    · rw [if_neg c2] at hm
      refine lv_iconst (v := (1 : Int32)) hx hb dX1_isCell_12 (by decide) ?_
      refine lv_goto (tgt := 17) hx hb dX1_isCell_13 (by decide) ?_
      subst hm
      exact K 17 ls dX1_isCell_17 rfl
set_option maxHeartbeats 4000000 in
set_option maxRecDepth 100000 in
theorem tX1_isCell (l : Launch) {D : va_G} {a1 : Int32} {r : Int32} (hm : mX1_isCell fc a1 = r) : Met l yX1_isCell (.code yX1_isCell cX1_isCell 2 (some .boolean) :: tw) ({ frames := 0, cells := 0, slots := 0, locals := 0 } : Room) (rdP D [.ref hF, .int a1] (wdF cI cJ hF hFr hFs hFc hFw fw fc fwh fbo fra fst fco fro) [(cI, .int), (cJ, .long)]) (vp_Si (fun q => q = r ∧ narrow .boolean (.int q) = .int q)) 0 0 (fun _ => False) := by
  refine Met.ofW (cc := cX1_isCell) (maxL := 2) (ret := (some .boolean)) (by decide) rfl ?_
  intro p e s m args below meth c s₁ B hml hv
  obtain ⟨rfl, hP, hK⟩ := hv
  have hx := B.exec
  have hb := B.bytes
  have hr := B.returns
  have hts : ∀ w ∈ tw, w.before _ s = true := fun w h => atoms_spec (ws := .code yX1_isCell cX1_isCell 2 (some .boolean) :: tw) B.pre w (List.mem_cons_of_mem _ h)
  have hown : s.vm.findClass RX1 = some m.cls := findClass_of_methodNamed B.named
  have hlocks := B.notSynchronized
  have hl := lv_entry ([.ref hF, .int a1]) (n := 2) (Nat.le_of_ble_eq_true rfl)
  rw [lg_entry_eq]
  generalize (lg_sl ([.ref hF, .int a1]) ++ List.replicate (2 - (lg_sl ([.ref hF, .int a1])).length) Slot.unset).toArray = ls at hl ⊢
  refine bX1_isCell hx hb hml hown hts hP hK ⟨Nat.le_of_ble_eq_true rfl, Nat.le_of_ble_eq_true rfl, Nat.zero_le _, Nat.zero_le _⟩ hm ls hl (fun pc ls hd hz => ?_)
  exact W.zret hx hb hr hz (fun t ht hW => ⟨r, rfl, ⟨rfl, hz⟩, ht⟩) (fun q h => by cases h) hd
set_option maxHeartbeats 4000000 in
set_option maxRecDepth 100000 in
theorem kX1_isCell {own : String} {cc : ByteArray} {nL idx pc : Nat} {ls : Array Slot} {rest : List Value} {a1 : Int32} (fx : CallFix p m c cc nL s args tw own) (hq : Cond.methodLink own idx yX1_isCell ∈ tw) (hP : va_P D vwCl (wdF cI cJ hF hFr hFs hFc hFw fw fc fwh fbo fra fst fco fro) H) (hK : va_K D vwCl [(cI, .int), (cJ, .long)] s) (hsz : ls.size = nL) (hR : 1 ≤ R.frames ∧ 21 ≤ R.locals ∧ cells ≤ R.cells ∧ slots ≤ R.slots) (hst : (rest.map fun v => v.category).sum ≤ 8) (hd : decode cc pc = .ok (.invokevirtual idx, 3)) (kk : W p l e R s m args below meth c H locs cells slots Q (F0 m (pc + 3) ls (.int (mX1_isCell fc a1) :: rest))) : W p l e R s m args below meth c H locs cells slots Q (F0 m pc ls (.int a1 :: .ref hF :: rest)) := by
  exact vp_callSi (va_Run.run (va_runV (As := [.int a1]) (rest := rest) fx (tX1_isCell l rfl) (cwV 1 fx.2.2.2.2 (tw_V hq qw_16 qw_17 qw_18 qw_19) rfl rfl rfl (by decide +kernel) ⟨hR.1, hR.2.1⟩) ⟨rdP_bl, va_recv hK hP (ci := 1) (q0 := 0) rfl rfl, rdP_ok hP hK⟩ rfl rfl hsz rfl (lv_room hst) hd ⟨hR.2.2.1, hR.2.2.2⟩)) (fun r9 hr9 => by first | (rw [hr9]; exact kk) | (rw [hr9.1]; exact kk))
-- X1_ahead
def mX1_ahead (fra : Nat → Int32) (fst : Nat → Int64) (a1 : Int64) (a3 : Int32) : Option Int64 :=
  gd (ib a3 9) (gd (ib a3 9) ((if (fra a3.toNatClampNeg) < 0 then (some (jlushr (a1 &&& (fst a3.toNatClampNeg)) (-(fra a3.toNatClampNeg)))) else (some (jlshl (a1 &&& (fst a3.toNatClampNeg)) (fra a3.toNatClampNeg))))))
theorem dX1_ahead_0 : decode cX1_ahead 0 = .ok (.aload_n 0, 1) := by decide +kernel
theorem dX1_ahead_1 : decode cX1_ahead 1 = .ok (.getfield 11, 3) := by decide +kernel
theorem dX1_ahead_4 : decode cX1_ahead 4 = .ok (.iload_n 3, 1) := by decide +kernel
theorem dX1_ahead_5 : decode cX1_ahead 5 = .ok (.iaload, 1) := by decide +kernel
theorem dX1_ahead_6 : decode cX1_ahead 6 = .ok (.istore 4, 2) := by decide +kernel
theorem dX1_ahead_8 : decode cX1_ahead 8 = .ok (.lload_n 1, 1) := by decide +kernel
theorem dX1_ahead_9 : decode cX1_ahead 9 = .ok (.aload_n 0, 1) := by decide +kernel
theorem dX1_ahead_10 : decode cX1_ahead 10 = .ok (.getfield 15, 3) := by decide +kernel
theorem dX1_ahead_13 : decode cX1_ahead 13 = .ok (.iload_n 3, 1) := by decide +kernel
theorem dX1_ahead_14 : decode cX1_ahead 14 = .ok (.laload, 1) := by decide +kernel
theorem dX1_ahead_15 : decode cX1_ahead 15 = .ok (.land, 1) := by decide +kernel
theorem dX1_ahead_16 : decode cX1_ahead 16 = .ok (.lstore 5, 2) := by decide +kernel
theorem dX1_ahead_18 : decode cX1_ahead 18 = .ok (.iload 4, 2) := by decide +kernel
theorem dX1_ahead_20 : decode cX1_ahead 20 = .ok (.ifCond .lt 11, 3) := by decide +kernel
theorem dX1_ahead_23 : decode cX1_ahead 23 = .ok (.lload 5, 2) := by decide +kernel
theorem dX1_ahead_25 : decode cX1_ahead 25 = .ok (.iload 4, 2) := by decide +kernel
theorem dX1_ahead_27 : decode cX1_ahead 27 = .ok (.lshl, 1) := by decide +kernel
theorem dX1_ahead_28 : decode cX1_ahead 28 = .ok (.goto 9, 3) := by decide +kernel
theorem dX1_ahead_31 : decode cX1_ahead 31 = .ok (.lload 5, 2) := by decide +kernel
theorem dX1_ahead_33 : decode cX1_ahead 33 = .ok (.iload 4, 2) := by decide +kernel
theorem dX1_ahead_35 : decode cX1_ahead 35 = .ok (.ineg, 1) := by decide +kernel
theorem dX1_ahead_36 : decode cX1_ahead 36 = .ok (.lushr, 1) := by decide +kernel
theorem dX1_ahead_37 : decode cX1_ahead 37 = .ok (.lreturn, 1) := by decide +kernel
set_option maxHeartbeats 4000000 in
set_option maxRecDepth 100000 in
theorem bX1_ahead {a1 : Int64} {a3 : Int32} {r : Int64} (hx : p.tables.exec = Jvm.exec) (hb : c.code = cX1_ahead) (hml : c.maxLocals = 7) (hown : s.vm.findClass RX1 = some m.cls) (hts : ∀ w ∈ tw, w.before args s = true) (hP : va_P D vwCl (wdF cI cJ hF hFr hFs hFc hFw fw fc fwh fbo fra fst fco fro) H) (hK : va_K D vwCl [(cI, .int), (cJ, .long)] s) (hR : 0 ≤ R.frames ∧ 0 ≤ R.locals ∧ cells ≤ R.cells ∧ slots ≤ R.slots) (hm : mX1_ahead fra fst a1 a3 = some r) (ls : Array Slot) (hl : lv_has ls 7 [(0, .ref hF), (1, .long a1), (3, .int a3)]) (K : ∀ (pc : Nat) (ls : Array Slot), decode cX1_ahead pc = .ok (.lreturn, 1) → W p l e R s m args below meth c H locs cells slots Q (F0 m pc ls [.long r])) : W p l e R s m args below meth c H locs cells slots Q (F0 m 0 ls []) := by
  unfold mX1_ahead at hm
  refine lv_aload_n hx hb dX1_ahead_0 rfl (lv_at hl 0 rfl) ?_
  refine va_get (D := D) (ci := 1) (v := .ref hFr) (C := RX1) (T := TX1) (N := 8) hx hb hts tnX1 hown hK hP 0 rfl rfl 4 (by decide) (hts _ qw_20) (fun _ h9 => h9) rfl dX1_ahead_1 ?_
  refine lv_iload_n hx hb dX1_ahead_4 rfl (lv_at hl 2 rfl) ?_
  obtain ⟨g1, hm⟩ := gd_out hm
  refine va_iald hx hb hK hP 1 0 rfl rfl g1 dX1_ahead_5 ?_
  refine lv_istore (lv' := [(4, .int (fra a3.toNatClampNeg)), (0, .ref hF), (1, .long a1), (3, .int a3)]) hx hb dX1_ahead_6 hl (by decide) rfl (fun ls hl => ?_)
  refine lv_lload_n hx hb dX1_ahead_8 rfl (lv_at hl 2 rfl) ?_
  refine lv_aload_n hx hb dX1_ahead_9 rfl (lv_at hl 1 rfl) ?_
  refine va_get (D := D) (ci := 1) (v := .ref hFs) (C := RX1) (T := TX1) (N := 8) hx hb hts tnX1 hown hK hP 0 rfl rfl 5 (by decide) (hts _ qw_21) (fun _ h9 => h9) rfl dX1_ahead_10 ?_
  refine lv_iload_n hx hb dX1_ahead_13 rfl (lv_at hl 3 rfl) ?_
  obtain ⟨g2, hm⟩ := gd_out hm
  refine va_lald hx hb hK hP 2 1 rfl rfl g2 dX1_ahead_14 ?_
  refine lv_land hx hb dX1_ahead_15 ?_
  refine lv_lstore (lv' := [(5, .long (a1 &&& (fst a3.toNatClampNeg))), (4, .int (fra a3.toNatClampNeg)), (0, .ref hF), (1, .long a1), (3, .int a3)]) hx hb dX1_ahead_16 hl (by decide) rfl (fun ls hl => ?_)
  refine lv_iload hx hb dX1_ahead_18 (lv_at hl 1 rfl) ?_
  refine lv_if_lt (tgt := 31) hx hb dX1_ahead_20 (by decide) (fun c3 => ?_) (fun c3 => ?_)
  · rw [if_pos c3] at hm
    refine lv_lload hx hb dX1_ahead_31 (lv_at hl 0 rfl) ?_
    refine lv_iload hx hb dX1_ahead_33 (lv_at hl 1 rfl) ?_
    refine lv_ineg hx hb dX1_ahead_35 ?_
    refine lv_lushr (v := (jlushr (a1 &&& (fst a3.toNatClampNeg)) (-(fra a3.toNatClampNeg)))) hx hb dX1_ahead_36 rfl ?_
    have hm := Option.some.inj hm
    subst hm
    exact K 37 ls dX1_ahead_37
  · rw [if_neg c3] at hm
    refine lv_lload hx hb dX1_ahead_23 (lv_at hl 0 rfl) ?_
    refine lv_iload hx hb dX1_ahead_25 (lv_at hl 1 rfl) ?_
    refine lv_lshl (v := (jlshl (a1 &&& (fst a3.toNatClampNeg)) (fra a3.toNatClampNeg))) hx hb dX1_ahead_27 rfl ?_
    refine lv_goto (tgt := 37) hx hb dX1_ahead_28 (by decide) ?_
    have hm := Option.some.inj hm
    subst hm
    exact K 37 ls dX1_ahead_37
set_option maxHeartbeats 4000000 in
set_option maxRecDepth 100000 in
theorem tX1_ahead (l : Launch) {D : va_G} {a1 : Int64} {a3 : Int32} {r : Int64} (hm : mX1_ahead fra fst a1 a3 = some r) : Met l yX1_ahead (.code yX1_ahead cX1_ahead 7 (some .long) :: tw) ({ frames := 0, cells := 0, slots := 0, locals := 0 } : Room) (rdP D [.ref hF, .long a1, .int a3] (wdF cI cJ hF hFr hFs hFc hFw fw fc fwh fbo fra fst fco fro) [(cI, .int), (cJ, .long)]) (vp_Sl (fun q => q = r)) 0 0 (fun _ => False) := by
  refine Met.ofW (cc := cX1_ahead) (maxL := 7) (ret := (some .long)) (by decide) rfl ?_
  intro p e s m args below meth c s₁ B hml hv
  obtain ⟨rfl, hP, hK⟩ := hv
  have hx := B.exec
  have hb := B.bytes
  have hr := B.returns
  have hts : ∀ w ∈ tw, w.before _ s = true := fun w h => atoms_spec (ws := .code yX1_ahead cX1_ahead 7 (some .long) :: tw) B.pre w (List.mem_cons_of_mem _ h)
  have hown : s.vm.findClass RX1 = some m.cls := findClass_of_methodNamed B.named
  have hlocks := B.notSynchronized
  have hl := lv_entry ([.ref hF, .long a1, .int a3]) (n := 7) (Nat.le_of_ble_eq_true rfl)
  rw [lg_entry_eq]
  generalize (lg_sl ([.ref hF, .long a1, .int a3]) ++ List.replicate (7 - (lg_sl ([.ref hF, .long a1, .int a3])).length) Slot.unset).toArray = ls at hl ⊢
  refine bX1_ahead hx hb hml hown hts hP hK ⟨Nat.le_of_ble_eq_true rfl, Nat.le_of_ble_eq_true rfl, Nat.zero_le _, Nat.zero_le _⟩ hm ls hl (fun pc ls hd => ?_)
  exact W.lret hx hb hr (fun t ht hW => ⟨r, rfl, rfl, ht⟩) (fun q h => by cases h) hd
set_option maxHeartbeats 4000000 in
set_option maxRecDepth 100000 in
theorem kX1_ahead {own : String} {cc : ByteArray} {nL idx pc : Nat} {ls : Array Slot} {rest : List Value} {a1 : Int64} {a3 : Int32} {r : Int64} (fx : CallFix p m c cc nL s args tw own) (hq : Cond.methodLink own idx yX1_ahead ∈ tw) (hP : va_P D vwCl (wdF cI cJ hF hFr hFs hFc hFw fw fc fwh fbo fra fst fco fro) H) (hK : va_K D vwCl [(cI, .int), (cJ, .long)] s) (hm : mX1_ahead fra fst a1 a3 = some r) (hsz : ls.size = nL) (hR : 1 ≤ R.frames ∧ 26 ≤ R.locals ∧ cells ≤ R.cells ∧ slots ≤ R.slots) (hst : (rest.map fun v => v.category).sum ≤ 8) (hd : decode cc pc = .ok (.invokevirtual idx, 3)) (kk : W p l e R s m args below meth c H locs cells slots Q (F0 m (pc + 3) ls (.long r :: rest))) : W p l e R s m args below meth c H locs cells slots Q (F0 m pc ls (.int a3 :: .long a1 :: .ref hF :: rest)) := by
  exact vp_callSl (va_Run.run (va_runV (As := [.long a1, .int a3]) (rest := rest) fx (tX1_ahead l hm) (cwV 2 fx.2.2.2.2 (tw_V hq qw_22 qw_23 qw_18 qw_24) rfl rfl rfl (by decide +kernel) ⟨hR.1, hR.2.1⟩) ⟨rdP_bl, va_recv hK hP (ci := 1) (q0 := 0) rfl rfl, rdP_ok hP hK⟩ rfl rfl hsz rfl (lv_room hst) hd ⟨hR.2.2.1, hR.2.2.2⟩)) (fun r9 hr9 => by first | (rw [hr9]; exact kk) | (rw [hr9.1]; exact kk))
-- X1_behind
def mX1_behind (fra : Nat → Int32) (fst : Nat → Int64) (a1 : Int64) (a3 : Int32) : Option Int64 :=
  gd (ib a3 9) (jl (if (fra a3.toNatClampNeg) < 0 then (jlshl a1 (-(fra a3.toNatClampNeg))) else (jlushr a1 (fra a3.toNatClampNeg))) (fun j2 => gd (ib a3 9) ((some (j2 &&& (fst a3.toNatClampNeg))))))
theorem dX1_behind_0 : decode cX1_behind 0 = .ok (.aload_n 0, 1) := by decide +kernel
theorem dX1_behind_1 : decode cX1_behind 1 = .ok (.getfield 11, 3) := by decide +kernel
theorem dX1_behind_4 : decode cX1_behind 4 = .ok (.iload_n 3, 1) := by decide +kernel
theorem dX1_behind_5 : decode cX1_behind 5 = .ok (.iaload, 1) := by decide +kernel
theorem dX1_behind_6 : decode cX1_behind 6 = .ok (.istore 4, 2) := by decide +kernel
theorem dX1_behind_8 : decode cX1_behind 8 = .ok (.iload 4, 2) := by decide +kernel
theorem dX1_behind_10 : decode cX1_behind 10 = .ok (.ifCond .lt 10, 3) := by decide +kernel
theorem dX1_behind_13 : decode cX1_behind 13 = .ok (.lload_n 1, 1) := by decide +kernel
theorem dX1_behind_14 : decode cX1_behind 14 = .ok (.iload 4, 2) := by decide +kernel
theorem dX1_behind_16 : decode cX1_behind 16 = .ok (.lushr, 1) := by decide +kernel
theorem dX1_behind_17 : decode cX1_behind 17 = .ok (.goto 8, 3) := by decide +kernel
theorem dX1_behind_20 : decode cX1_behind 20 = .ok (.lload_n 1, 1) := by decide +kernel
theorem dX1_behind_21 : decode cX1_behind 21 = .ok (.iload 4, 2) := by decide +kernel
theorem dX1_behind_23 : decode cX1_behind 23 = .ok (.ineg, 1) := by decide +kernel
theorem dX1_behind_24 : decode cX1_behind 24 = .ok (.lshl, 1) := by decide +kernel
theorem dX1_behind_25 : decode cX1_behind 25 = .ok (.aload_n 0, 1) := by decide +kernel
theorem dX1_behind_26 : decode cX1_behind 26 = .ok (.getfield 15, 3) := by decide +kernel
theorem dX1_behind_29 : decode cX1_behind 29 = .ok (.iload_n 3, 1) := by decide +kernel
theorem dX1_behind_30 : decode cX1_behind 30 = .ok (.laload, 1) := by decide +kernel
theorem dX1_behind_31 : decode cX1_behind 31 = .ok (.land, 1) := by decide +kernel
theorem dX1_behind_32 : decode cX1_behind 32 = .ok (.lreturn, 1) := by decide +kernel
set_option maxHeartbeats 4000000 in
set_option maxRecDepth 100000 in
theorem bX1_behind {a1 : Int64} {a3 : Int32} {r : Int64} (hx : p.tables.exec = Jvm.exec) (hb : c.code = cX1_behind) (hml : c.maxLocals = 5) (hown : s.vm.findClass RX1 = some m.cls) (hts : ∀ w ∈ tw, w.before args s = true) (hP : va_P D vwCl (wdF cI cJ hF hFr hFs hFc hFw fw fc fwh fbo fra fst fco fro) H) (hK : va_K D vwCl [(cI, .int), (cJ, .long)] s) (hR : 0 ≤ R.frames ∧ 0 ≤ R.locals ∧ cells ≤ R.cells ∧ slots ≤ R.slots) (hm : mX1_behind fra fst a1 a3 = some r) (ls : Array Slot) (hl : lv_has ls 5 [(0, .ref hF), (1, .long a1), (3, .int a3)]) (K : ∀ (pc : Nat) (ls : Array Slot), decode cX1_behind pc = .ok (.lreturn, 1) → W p l e R s m args below meth c H locs cells slots Q (F0 m pc ls [.long r])) : W p l e R s m args below meth c H locs cells slots Q (F0 m 0 ls []) := by
  unfold mX1_behind at hm
  refine lv_aload_n hx hb dX1_behind_0 rfl (lv_at hl 0 rfl) ?_
  refine va_get (D := D) (ci := 1) (v := .ref hFr) (C := RX1) (T := TX1) (N := 8) hx hb hts tnX1 hown hK hP 0 rfl rfl 4 (by decide) (hts _ qw_20) (fun _ h9 => h9) rfl dX1_behind_1 ?_
  refine lv_iload_n hx hb dX1_behind_4 rfl (lv_at hl 2 rfl) ?_
  obtain ⟨g1, hm⟩ := gd_out hm
  refine va_iald hx hb hK hP 1 0 rfl rfl g1 dX1_behind_5 ?_
  refine lv_istore (lv' := [(4, .int (fra a3.toNatClampNeg)), (0, .ref hF), (1, .long a1), (3, .int a3)]) hx hb dX1_behind_6 hl (by decide) rfl (fun ls hl => ?_)
  refine lv_iload hx hb dX1_behind_8 (lv_at hl 0 rfl) ?_
  obtain ⟨j2, hi3, hm⟩ := jl_out hm
  have key4 : ∀ (ls : Array Slot), lv_has ls 5 [(0, .ref hF), (3, .int a3)] → W p l e R s m args below meth c H locs cells slots Q (F0 m 25 ls [.long j2]) := by
    intro ls hl
    refine lv_aload_n hx hb dX1_behind_25 rfl (lv_at hl 0 rfl) ?_
    refine va_get (D := D) (ci := 1) (v := .ref hFs) (C := RX1) (T := TX1) (N := 8) hx hb hts tnX1 hown hK hP 0 rfl rfl 5 (by decide) (hts _ qw_21) (fun _ h9 => h9) rfl dX1_behind_26 ?_
    refine lv_iload_n hx hb dX1_behind_29 rfl (lv_at hl 1 rfl) ?_
    obtain ⟨g6, hm⟩ := gd_out hm
    refine va_lald hx hb hK hP 2 1 rfl rfl g6 dX1_behind_30 ?_
    refine lv_land hx hb dX1_behind_31 ?_
    have hm := Option.some.inj hm
    subst hm
    exact K 32 ls dX1_behind_32
  refine lv_if_lt (tgt := 20) hx hb dX1_behind_10 (by decide) (fun c5 => ?_) (fun c5 => ?_)
  · rw [if_pos c5] at hi3
    refine lv_lload_n hx hb dX1_behind_20 rfl (lv_at hl 2 rfl) ?_
    refine lv_iload hx hb dX1_behind_21 (lv_at hl 0 rfl) ?_
    refine lv_ineg hx hb dX1_behind_23 ?_
    refine lv_lshl (v := (jlshl a1 (-(fra a3.toNatClampNeg)))) hx hb dX1_behind_24 rfl ?_
    rw [hi3] at key4
    exact key4 ls (lv_sub hl [1, 3] rfl)
  · rw [if_neg c5] at hi3
    refine lv_lload_n hx hb dX1_behind_13 rfl (lv_at hl 2 rfl) ?_
    refine lv_iload hx hb dX1_behind_14 (lv_at hl 0 rfl) ?_
    refine lv_lushr (v := (jlushr a1 (fra a3.toNatClampNeg))) hx hb dX1_behind_16 rfl ?_
    refine lv_goto (tgt := 25) hx hb dX1_behind_17 (by decide) ?_
    rw [hi3] at key4
    exact key4 ls (lv_sub hl [1, 3] rfl)
set_option maxHeartbeats 4000000 in
set_option maxRecDepth 100000 in
theorem tX1_behind (l : Launch) {D : va_G} {a1 : Int64} {a3 : Int32} {r : Int64} (hm : mX1_behind fra fst a1 a3 = some r) : Met l yX1_behind (.code yX1_behind cX1_behind 5 (some .long) :: tw) ({ frames := 0, cells := 0, slots := 0, locals := 0 } : Room) (rdP D [.ref hF, .long a1, .int a3] (wdF cI cJ hF hFr hFs hFc hFw fw fc fwh fbo fra fst fco fro) [(cI, .int), (cJ, .long)]) (vp_Sl (fun q => q = r)) 0 0 (fun _ => False) := by
  refine Met.ofW (cc := cX1_behind) (maxL := 5) (ret := (some .long)) (by decide) rfl ?_
  intro p e s m args below meth c s₁ B hml hv
  obtain ⟨rfl, hP, hK⟩ := hv
  have hx := B.exec
  have hb := B.bytes
  have hr := B.returns
  have hts : ∀ w ∈ tw, w.before _ s = true := fun w h => atoms_spec (ws := .code yX1_behind cX1_behind 5 (some .long) :: tw) B.pre w (List.mem_cons_of_mem _ h)
  have hown : s.vm.findClass RX1 = some m.cls := findClass_of_methodNamed B.named
  have hlocks := B.notSynchronized
  have hl := lv_entry ([.ref hF, .long a1, .int a3]) (n := 5) (Nat.le_of_ble_eq_true rfl)
  rw [lg_entry_eq]
  generalize (lg_sl ([.ref hF, .long a1, .int a3]) ++ List.replicate (5 - (lg_sl ([.ref hF, .long a1, .int a3])).length) Slot.unset).toArray = ls at hl ⊢
  refine bX1_behind hx hb hml hown hts hP hK ⟨Nat.le_of_ble_eq_true rfl, Nat.le_of_ble_eq_true rfl, Nat.zero_le _, Nat.zero_le _⟩ hm ls hl (fun pc ls hd => ?_)
  exact W.lret hx hb hr (fun t ht hW => ⟨r, rfl, rfl, ht⟩) (fun q h => by cases h) hd
set_option maxHeartbeats 4000000 in
set_option maxRecDepth 100000 in
theorem kX1_behind {own : String} {cc : ByteArray} {nL idx pc : Nat} {ls : Array Slot} {rest : List Value} {a1 : Int64} {a3 : Int32} {r : Int64} (fx : CallFix p m c cc nL s args tw own) (hq : Cond.methodLink own idx yX1_behind ∈ tw) (hP : va_P D vwCl (wdF cI cJ hF hFr hFs hFc hFw fw fc fwh fbo fra fst fco fro) H) (hK : va_K D vwCl [(cI, .int), (cJ, .long)] s) (hm : mX1_behind fra fst a1 a3 = some r) (hsz : ls.size = nL) (hR : 1 ≤ R.frames ∧ 24 ≤ R.locals ∧ cells ≤ R.cells ∧ slots ≤ R.slots) (hst : (rest.map fun v => v.category).sum ≤ 8) (hd : decode cc pc = .ok (.invokevirtual idx, 3)) (kk : W p l e R s m args below meth c H locs cells slots Q (F0 m (pc + 3) ls (.long r :: rest))) : W p l e R s m args below meth c H locs cells slots Q (F0 m pc ls (.int a3 :: .long a1 :: .ref hF :: rest)) := by
  exact vp_callSl (va_Run.run (va_runV (As := [.long a1, .int a3]) (rest := rest) fx (tX1_behind l hm) (cwV 2 fx.2.2.2.2 (tw_V hq qw_25 qw_26 qw_18 qw_27) rfl rfl rfl (by decide +kernel) ⟨hR.1, hR.2.1⟩) ⟨rdP_bl, va_recv hK hP (ci := 1) (q0 := 0) rfl rfl, rdP_ok hP hK⟩ rfl rfl hsz rfl (lv_room hst) hd ⟨hR.2.2.1, hR.2.2.2⟩)) (fun r9 hr9 => by first | (rw [hr9]; exact kk) | (rw [hr9.1]; exact kk))
-- X1_grown
def mX1_grown_L6 (n : Nat) (v3 : Int32) (fra : Nat → Int32) (fst : Nat → Int64) (v1 : Int64) : Nat → (Int64) → (Int32) → Option ((Int64))
  | 0, _, _ => none
  | k + 1, v4, v6 => (if (9 : Int32) ≤ v6 then some (v4) else jb (if ((v3 >>> (v6 &&& 31)) &&& (1 : Int32)) = 0 then (some (v4)) else jb (mX1_ahead fra fst v1 v6) (fun (r7 : Int64) => (some ((v4 ||| r7))))) (fun (j3 : Int64) => mX1_grown_L6 n v3 fra fst v1 k j3 (v6 + (1 : Int32))))
def mX1_grown (n : Nat) (fra : Nat → Int32) (fst : Nat → Int64) (a1 : Int64) (a3 : Int32) : Option Int64 :=
  jb (mX1_grown_L6 n a3 fra fst a1 n (0 : Int64) (0 : Int32)) (fun (y9 : Int64) => (some y9))
theorem dX1_grown_0 : decode cX1_grown 0 = .ok (.lconst 0, 1) := by decide +kernel
theorem dX1_grown_1 : decode cX1_grown 1 = .ok (.lstore 4, 2) := by decide +kernel
theorem dX1_grown_3 : decode cX1_grown 3 = .ok (.iconst 0, 1) := by decide +kernel
theorem dX1_grown_4 : decode cX1_grown 4 = .ok (.istore 6, 2) := by decide +kernel
theorem dX1_grown_6 : decode cX1_grown 6 = .ok (.iload 6, 2) := by decide +kernel
theorem dX1_grown_8 : decode cX1_grown 8 = .ok (.bipush 9, 2) := by decide +kernel
theorem dX1_grown_10 : decode cX1_grown 10 = .ok (.if_icmp .ge 30, 3) := by decide +kernel
theorem dX1_grown_13 : decode cX1_grown 13 = .ok (.iload_n 3, 1) := by decide +kernel
theorem dX1_grown_14 : decode cX1_grown 14 = .ok (.iload 6, 2) := by decide +kernel
theorem dX1_grown_16 : decode cX1_grown 16 = .ok (.ishr, 1) := by decide +kernel
theorem dX1_grown_17 : decode cX1_grown 17 = .ok (.iconst 1, 1) := by decide +kernel
theorem dX1_grown_18 : decode cX1_grown 18 = .ok (.iand, 1) := by decide +kernel
theorem dX1_grown_19 : decode cX1_grown 19 = .ok (.ifCond .eq 15, 3) := by decide +kernel
theorem dX1_grown_22 : decode cX1_grown 22 = .ok (.lload 4, 2) := by decide +kernel
theorem dX1_grown_24 : decode cX1_grown 24 = .ok (.aload_n 0, 1) := by decide +kernel
theorem dX1_grown_25 : decode cX1_grown 25 = .ok (.lload_n 1, 1) := by decide +kernel
theorem dX1_grown_26 : decode cX1_grown 26 = .ok (.iload 6, 2) := by decide +kernel
theorem dX1_grown_28 : decode cX1_grown 28 = .ok (.invokevirtual 48, 3) := by decide +kernel
theorem dX1_grown_31 : decode cX1_grown 31 = .ok (.lor, 1) := by decide +kernel
theorem dX1_grown_32 : decode cX1_grown 32 = .ok (.lstore 4, 2) := by decide +kernel
theorem dX1_grown_34 : decode cX1_grown 34 = .ok (.iinc 6 1, 3) := by decide +kernel
theorem dX1_grown_37 : decode cX1_grown 37 = .ok (.goto (-31), 3) := by decide +kernel
theorem dX1_grown_40 : decode cX1_grown 40 = .ok (.lload 4, 2) := by decide +kernel
theorem dX1_grown_42 : decode cX1_grown 42 = .ok (.lreturn, 1) := by decide +kernel
set_option maxHeartbeats 4000000 in
set_option maxRecDepth 100000 in
theorem wX1_grown_L6 {n : Nat} {v1 : Int64} {v3 : Int32} (hx : p.tables.exec = Jvm.exec) (hb : c.code = cX1_grown) (hml : c.maxLocals = 7) (hown : s.vm.findClass RX1 = some m.cls) (hts : ∀ w ∈ tw, w.before args s = true) (hP : va_P D vwCl (wdF cI cJ hF hFr hFs hFc hFw fw fc fwh fbo fra fst fco fro) H) (hK : va_K D vwCl [(cI, .int), (cJ, .long)] s) (hR : 1 ≤ R.frames ∧ 26 ≤ R.locals ∧ cells ≤ R.cells ∧ slots ≤ R.slots) : ∀ (k : Nat) (v4 : Int64) (v6 : Int32) (x4 : Int64), mX1_grown_L6 n v3 fra fst v1 k v4 v6 = some (x4) → ∀ ls : Array Slot, lv_has ls 7 [(0, .ref hF), (1, .long v1), (3, .int v3), (4, .long v4), (6, .int v6)] → (∀ ls : Array Slot, lv_has ls 7 [(4, .long x4)] → W p l e R s m args below meth c H locs cells slots Q (F0 m 40 ls [])) → W p l e R s m args below meth c H locs cells slots Q (F0 m 6 ls []) := by
  intro k
  induction k with
  | zero => intro v4 v6 x4 hm; rw [mX1_grown_L6] at hm; cases hm
  | succ k ih =>
    intro v4 v6 x4 hm ls hl K0
    rw [mX1_grown_L6] at hm
    refine lv_iload hx hb dX1_grown_6 (lv_at hl 4 rfl) ?_
    refine lv_bipush (v := (9 : Int32)) hx hb dX1_grown_8 (by decide) ?_
    refine lv_icmp_ge (tgt := 40) hx hb dX1_grown_10 (by decide) (fun c2 => ?_) (fun c2 => ?_)
    · rw [if_pos c2] at hm
      have hm := Option.some.inj hm
      have e9 : x4 = v4 := (congrArg (fun q => q) hm).symm
      rw [e9] at K0
      exact K0 ls (lv_sub hl [3] rfl)
    · rw [if_neg c2] at hm
      refine lv_iload_n hx hb dX1_grown_13 rfl (lv_at hl 2 rfl) ?_
      refine lv_iload hx hb dX1_grown_14 (lv_at hl 4 rfl) ?_
      refine lv_ishr hx hb dX1_grown_16 ?_
      refine lv_iconst (v := (1 : Int32)) hx hb dX1_grown_17 (by decide) ?_
      refine lv_iand hx hb dX1_grown_18 ?_
      obtain ⟨j3, hi4, hm⟩ := jb_out hm
      have key5 : ∀ (ls : Array Slot), lv_has ls 7 [(4, .long j3), (0, .ref hF), (1, .long v1), (3, .int v3), (6, .int v6)] → W p l e R s m args below meth c H locs cells slots Q (F0 m 34 ls []) := by
        intro ls hl
        refine lv_iinc (v := (v6 + (1 : Int32))) (lv' := [(6, .int (v6 + (1 : Int32))), (4, .long j3), (0, .ref hF), (1, .long v1), (3, .int v3)]) hx hb dX1_grown_34 hl (k := 4) rfl (by rfl) (by decide) rfl (fun ls hl => ?_)
        refine lv_goto (tgt := 6) hx hb dX1_grown_37 (by decide) ?_
        exact ih _ _ _ hm ls (lv_sub hl [2, 3, 4, 1, 0] rfl) K0
      refine lv_if_eq (tgt := 34) hx hb dX1_grown_19 (by decide) (fun c6 => ?_) (fun c6 => ?_)
      · rw [if_pos c6] at hi4
        have hi4 := Option.some.inj hi4
        have e9 : j3 = v4 := (congrArg (fun q => q) hi4).symm
        rw [e9] at key5
        exact key5 ls (lv_sub hl [3, 0, 1, 2, 4] rfl)
      · rw [if_neg c6] at hi4
        refine lv_lload hx hb dX1_grown_22 (lv_at hl 3 rfl) ?_
        refine lv_aload_n hx hb dX1_grown_24 rfl (lv_at hl 0 rfl) ?_
        refine lv_lload_n hx hb dX1_grown_25 rfl (lv_at hl 1 rfl) ?_
        refine lv_iload hx hb dX1_grown_26 (lv_at hl 4 rfl) ?_
        obtain ⟨r7, h8, hi4⟩ := jb_out hi4
        refine kX1_ahead ⟨hx, hb, hml, hown, hts⟩ qw_28 hP hK h8 hl.1 ⟨Nat.le_trans (by decide) hR.1, Nat.le_trans (by decide) hR.2.1, hR.2.2⟩ (Nat.le_of_ble_eq_true rfl) dX1_grown_28 ?_
        refine lv_lor hx hb dX1_grown_31 ?_
        refine lv_lstore (lv' := [(4, .long (v4 ||| r7)), (0, .ref hF), (1, .long v1), (3, .int v3), (6, .int v6)]) hx hb dX1_grown_32 hl (by decide) rfl (fun ls hl => ?_)
        have hi4 := Option.some.inj hi4
        have e9 : j3 = (v4 ||| r7) := (congrArg (fun q => q) hi4).symm
        rw [e9] at key5
        exact key5 ls (lv_sub hl [0, 1, 2, 3, 4] rfl)
set_option maxHeartbeats 4000000 in
set_option maxRecDepth 100000 in
theorem bX1_grown {n : Nat} {a1 : Int64} {a3 : Int32} {r : Int64} (hx : p.tables.exec = Jvm.exec) (hb : c.code = cX1_grown) (hml : c.maxLocals = 7) (hown : s.vm.findClass RX1 = some m.cls) (hts : ∀ w ∈ tw, w.before args s = true) (hP : va_P D vwCl (wdF cI cJ hF hFr hFs hFc hFw fw fc fwh fbo fra fst fco fro) H) (hK : va_K D vwCl [(cI, .int), (cJ, .long)] s) (hR : 1 ≤ R.frames ∧ 26 ≤ R.locals ∧ cells ≤ R.cells ∧ slots ≤ R.slots) (hm : mX1_grown n fra fst a1 a3 = some r) (ls : Array Slot) (hl : lv_has ls 7 [(0, .ref hF), (1, .long a1), (3, .int a3)]) (K : ∀ (pc : Nat) (ls : Array Slot), decode cX1_grown pc = .ok (.lreturn, 1) → W p l e R s m args below meth c H locs cells slots Q (F0 m pc ls [.long r])) : W p l e R s m args below meth c H locs cells slots Q (F0 m 0 ls []) := by
  unfold mX1_grown at hm
  refine lv_lconst (v := (0 : Int64)) hx hb dX1_grown_0 (by decide) ?_
  refine lv_lstore (lv' := [(4, .long (0 : Int64)), (0, .ref hF), (1, .long a1), (3, .int a3)]) hx hb dX1_grown_1 hl (by decide) rfl (fun ls hl => ?_)
  refine lv_iconst (v := (0 : Int32)) hx hb dX1_grown_3 (by decide) ?_
  refine lv_istore (lv' := [(6, .int (0 : Int32)), (4, .long (0 : Int64)), (0, .ref hF), (1, .long a1), (3, .int a3)]) hx hb dX1_grown_4 hl (by decide) rfl (fun ls hl => ?_)
  obtain ⟨y9, h10, hm⟩ := jb_out hm
  refine wX1_grown_L6 hx hb hml hown hts hP hK hR n _ _ _  h10 ls (lv_sub hl [2, 3, 4, 1, 0] rfl) (fun ls hl => ?_)
  refine lv_lload hx hb dX1_grown_40 (lv_at hl 0 rfl) ?_
  have hm := Option.some.inj hm
  subst hm
  exact K 42 ls dX1_grown_42
set_option maxHeartbeats 4000000 in
set_option maxRecDepth 100000 in
theorem tX1_grown (l : Launch) {D : va_G} {n : Nat} {a1 : Int64} {a3 : Int32} {r : Int64} (hm : mX1_grown n fra fst a1 a3 = some r) : Met l yX1_grown (.code yX1_grown cX1_grown 7 (some .long) :: tw) ({ frames := 1, cells := 0, slots := 0, locals := 26 } : Room) (rdP D [.ref hF, .long a1, .int a3] (wdF cI cJ hF hFr hFs hFc hFw fw fc fwh fbo fra fst fco fro) [(cI, .int), (cJ, .long)]) (vp_Sl (fun q => q = r)) 0 0 (fun _ => False) := by
  refine Met.ofW (cc := cX1_grown) (maxL := 7) (ret := (some .long)) (by decide) rfl ?_
  intro p e s m args below meth c s₁ B hml hv
  obtain ⟨rfl, hP, hK⟩ := hv
  have hx := B.exec
  have hb := B.bytes
  have hr := B.returns
  have hts : ∀ w ∈ tw, w.before _ s = true := fun w h => atoms_spec (ws := .code yX1_grown cX1_grown 7 (some .long) :: tw) B.pre w (List.mem_cons_of_mem _ h)
  have hown : s.vm.findClass RX1 = some m.cls := findClass_of_methodNamed B.named
  have hlocks := B.notSynchronized
  have hl := lv_entry ([.ref hF, .long a1, .int a3]) (n := 7) (Nat.le_of_ble_eq_true rfl)
  rw [lg_entry_eq]
  generalize (lg_sl ([.ref hF, .long a1, .int a3]) ++ List.replicate (7 - (lg_sl ([.ref hF, .long a1, .int a3])).length) Slot.unset).toArray = ls at hl ⊢
  refine bX1_grown hx hb hml hown hts hP hK ⟨Nat.le_of_ble_eq_true rfl, Nat.le_of_ble_eq_true rfl, Nat.zero_le _, Nat.zero_le _⟩ hm ls hl (fun pc ls hd => ?_)
  exact W.lret hx hb hr (fun t ht hW => ⟨r, rfl, rfl, ht⟩) (fun q h => by cases h) hd
set_option maxHeartbeats 4000000 in
set_option maxRecDepth 100000 in
theorem kX1_grown {own : String} {cc : ByteArray} {nL idx pc : Nat} {ls : Array Slot} {rest : List Value} {n : Nat} {a1 : Int64} {a3 : Int32} {r : Int64} (fx : CallFix p m c cc nL s args tw own) (hq : Cond.methodLink own idx yX1_grown ∈ tw) (hP : va_P D vwCl (wdF cI cJ hF hFr hFs hFc hFw fw fc fwh fbo fra fst fco fro) H) (hK : va_K D vwCl [(cI, .int), (cJ, .long)] s) (hm : mX1_grown n fra fst a1 a3 = some r) (hsz : ls.size = nL) (hR : 2 ≤ R.frames ∧ 52 ≤ R.locals ∧ cells ≤ R.cells ∧ slots ≤ R.slots) (hst : (rest.map fun v => v.category).sum ≤ 8) (hd : decode cc pc = .ok (.invokevirtual idx, 3)) (kk : W p l e R s m args below meth c H locs cells slots Q (F0 m (pc + 3) ls (.long r :: rest))) : W p l e R s m args below meth c H locs cells slots Q (F0 m pc ls (.int a3 :: .long a1 :: .ref hF :: rest)) := by
  exact vp_callSl (va_Run.run (va_runV (As := [.long a1, .int a3]) (rest := rest) fx (tX1_grown l hm) (cwV 2 fx.2.2.2.2 (tw_V hq qw_29 qw_30 qw_18 qw_31) rfl rfl rfl (by decide +kernel) ⟨hR.1, hR.2.1⟩) ⟨rdP_bl, va_recv hK hP (ci := 1) (q0 := 0) rfl rfl, rdP_ok hP hK⟩ rfl rfl hsz rfl (lv_room hst) hd ⟨hR.2.2.1, hR.2.2.2⟩)) (fun r9 hr9 => by first | (rw [hr9]; exact kk) | (rw [hr9.1]; exact kk))
-- X1_worn
def mX1_worn_L9 (n : Nat) (v3 : Int32) (fra : Nat → Int32) (fst : Nat → Int64) (v1 : Int64) (v4 : Int32) : Nat → (Int64) → (Int32) → Option ((Int64))
  | 0, _, _ => none
  | k + 1, v5, v7 => (if (9 : Int32) ≤ v7 then some (v5) else jb (if ((v3 >>> (v7 &&& 31)) &&& (1 : Int32)) = 0 then (some (v5)) else jb (mX1_behind fra fst v1 v7) (fun (r7 : Int64) => jb (if v4 = 0 then (some ((0 : Int64))) else gd (ib v7 9) ((some (((fst v7.toNatClampNeg) ^^^ (-1 : Int64)))))) (fun (j9 : Int64) => (some ((v5 &&& (r7 ||| j9))))))) (fun (j3 : Int64) => mX1_worn_L9 n v3 fra fst v1 v4 k j3 (v7 + (1 : Int32))))
def mX1_worn (n : Nat) (fra : Nat → Int32) (fst : Nat → Int64) (fwh : Int64) (a1 : Int64) (a3 : Int32) (a4 : Int32) : Option Int64 :=
  jb (mX1_worn_L9 n a3 fra fst a1 a4 n fwh (0 : Int32)) (fun (y14 : Int64) => (some y14))
theorem dX1_worn_0 : decode cX1_worn 0 = .ok (.aload_n 0, 1) := by decide +kernel
theorem dX1_worn_1 : decode cX1_worn 1 = .ok (.getfield 36, 3) := by decide +kernel
theorem dX1_worn_4 : decode cX1_worn 4 = .ok (.lstore 5, 2) := by decide +kernel
theorem dX1_worn_6 : decode cX1_worn 6 = .ok (.iconst 0, 1) := by decide +kernel
theorem dX1_worn_7 : decode cX1_worn 7 = .ok (.istore 7, 2) := by decide +kernel
theorem dX1_worn_9 : decode cX1_worn 9 = .ok (.iload 7, 2) := by decide +kernel
theorem dX1_worn_11 : decode cX1_worn 11 = .ok (.bipush 9, 2) := by decide +kernel
theorem dX1_worn_13 : decode cX1_worn 13 = .ok (.if_icmp .ge 51, 3) := by decide +kernel
theorem dX1_worn_16 : decode cX1_worn 16 = .ok (.iload_n 3, 1) := by decide +kernel
theorem dX1_worn_17 : decode cX1_worn 17 = .ok (.iload 7, 2) := by decide +kernel
theorem dX1_worn_19 : decode cX1_worn 19 = .ok (.ishr, 1) := by decide +kernel
theorem dX1_worn_20 : decode cX1_worn 20 = .ok (.iconst 1, 1) := by decide +kernel
theorem dX1_worn_21 : decode cX1_worn 21 = .ok (.iand, 1) := by decide +kernel
theorem dX1_worn_22 : decode cX1_worn 22 = .ok (.ifCond .eq 36, 3) := by decide +kernel
theorem dX1_worn_25 : decode cX1_worn 25 = .ok (.lload 5, 2) := by decide +kernel
theorem dX1_worn_27 : decode cX1_worn 27 = .ok (.aload_n 0, 1) := by decide +kernel
theorem dX1_worn_28 : decode cX1_worn 28 = .ok (.lload_n 1, 1) := by decide +kernel
theorem dX1_worn_29 : decode cX1_worn 29 = .ok (.iload 7, 2) := by decide +kernel
theorem dX1_worn_31 : decode cX1_worn 31 = .ok (.invokevirtual 52, 3) := by decide +kernel
theorem dX1_worn_34 : decode cX1_worn 34 = .ok (.iload 4, 2) := by decide +kernel
theorem dX1_worn_36 : decode cX1_worn 36 = .ok (.ifCond .eq 17, 3) := by decide +kernel
theorem dX1_worn_39 : decode cX1_worn 39 = .ok (.aload_n 0, 1) := by decide +kernel
theorem dX1_worn_40 : decode cX1_worn 40 = .ok (.getfield 15, 3) := by decide +kernel
theorem dX1_worn_43 : decode cX1_worn 43 = .ok (.iload 7, 2) := by decide +kernel
theorem dX1_worn_45 : decode cX1_worn 45 = .ok (.laload, 1) := by decide +kernel
theorem dX1_worn_46 : decode cX1_worn 46 = .ok (.ldc2_w 46, 3) := by decide +kernel
theorem dX1_worn_49 : decode cX1_worn 49 = .ok (.lxor, 1) := by decide +kernel
theorem dX1_worn_50 : decode cX1_worn 50 = .ok (.goto 4, 3) := by decide +kernel
theorem dX1_worn_53 : decode cX1_worn 53 = .ok (.lconst 0, 1) := by decide +kernel
theorem dX1_worn_54 : decode cX1_worn 54 = .ok (.lor, 1) := by decide +kernel
theorem dX1_worn_55 : decode cX1_worn 55 = .ok (.land, 1) := by decide +kernel
theorem dX1_worn_56 : decode cX1_worn 56 = .ok (.lstore 5, 2) := by decide +kernel
theorem dX1_worn_58 : decode cX1_worn 58 = .ok (.iinc 7 1, 3) := by decide +kernel
theorem dX1_worn_61 : decode cX1_worn 61 = .ok (.goto (-52), 3) := by decide +kernel
theorem dX1_worn_64 : decode cX1_worn 64 = .ok (.lload 5, 2) := by decide +kernel
theorem dX1_worn_66 : decode cX1_worn 66 = .ok (.lreturn, 1) := by decide +kernel
set_option maxHeartbeats 4000000 in
set_option maxRecDepth 100000 in
theorem wX1_worn_L9 {n : Nat} {v1 : Int64} {v3 : Int32} {v4 : Int32} (hx : p.tables.exec = Jvm.exec) (hb : c.code = cX1_worn) (hml : c.maxLocals = 8) (hown : s.vm.findClass RX1 = some m.cls) (hts : ∀ w ∈ tw, w.before args s = true) (hP : va_P D vwCl (wdF cI cJ hF hFr hFs hFc hFw fw fc fwh fbo fra fst fco fro) H) (hK : va_K D vwCl [(cI, .int), (cJ, .long)] s) (hR : 1 ≤ R.frames ∧ 24 ≤ R.locals ∧ cells ≤ R.cells ∧ slots ≤ R.slots) : ∀ (k : Nat) (v5 : Int64) (v7 : Int32) (x5 : Int64), mX1_worn_L9 n v3 fra fst v1 v4 k v5 v7 = some (x5) → ∀ ls : Array Slot, lv_has ls 8 [(0, .ref hF), (1, .long v1), (3, .int v3), (4, .int v4), (5, .long v5), (7, .int v7)] → (∀ ls : Array Slot, lv_has ls 8 [(5, .long x5)] → W p l e R s m args below meth c H locs cells slots Q (F0 m 64 ls [])) → W p l e R s m args below meth c H locs cells slots Q (F0 m 9 ls []) := by
  intro k
  induction k with
  | zero => intro v5 v7 x5 hm; rw [mX1_worn_L9] at hm; cases hm
  | succ k ih =>
    intro v5 v7 x5 hm ls hl K0
    rw [mX1_worn_L9] at hm
    refine lv_iload hx hb dX1_worn_9 (lv_at hl 5 rfl) ?_
    refine lv_bipush (v := (9 : Int32)) hx hb dX1_worn_11 (by decide) ?_
    refine lv_icmp_ge (tgt := 64) hx hb dX1_worn_13 (by decide) (fun c2 => ?_) (fun c2 => ?_)
    · rw [if_pos c2] at hm
      have hm := Option.some.inj hm
      have e9 : x5 = v5 := (congrArg (fun q => q) hm).symm
      rw [e9] at K0
      exact K0 ls (lv_sub hl [4] rfl)
    · rw [if_neg c2] at hm
      refine lv_iload_n hx hb dX1_worn_16 rfl (lv_at hl 2 rfl) ?_
      refine lv_iload hx hb dX1_worn_17 (lv_at hl 5 rfl) ?_
      refine lv_ishr hx hb dX1_worn_19 ?_
      refine lv_iconst (v := (1 : Int32)) hx hb dX1_worn_20 (by decide) ?_
      refine lv_iand hx hb dX1_worn_21 ?_
      obtain ⟨j3, hi4, hm⟩ := jb_out hm
      have key5 : ∀ (ls : Array Slot), lv_has ls 8 [(5, .long j3), (0, .ref hF), (1, .long v1), (3, .int v3), (4, .int v4), (7, .int v7)] → W p l e R s m args below meth c H locs cells slots Q (F0 m 58 ls []) := by
        intro ls hl
        refine lv_iinc (v := (v7 + (1 : Int32))) (lv' := [(7, .int (v7 + (1 : Int32))), (5, .long j3), (0, .ref hF), (1, .long v1), (3, .int v3), (4, .int v4)]) hx hb dX1_worn_58 hl (k := 5) rfl (by rfl) (by decide) rfl (fun ls hl => ?_)
        refine lv_goto (tgt := 9) hx hb dX1_worn_61 (by decide) ?_
        exact ih _ _ _ hm ls (lv_sub hl [2, 3, 4, 5, 1, 0] rfl) K0
      refine lv_if_eq (tgt := 58) hx hb dX1_worn_22 (by decide) (fun c6 => ?_) (fun c6 => ?_)
      · rw [if_pos c6] at hi4
        have hi4 := Option.some.inj hi4
        have e9 : j3 = v5 := (congrArg (fun q => q) hi4).symm
        rw [e9] at key5
        exact key5 ls (lv_sub hl [4, 0, 1, 2, 3, 5] rfl)
      · rw [if_neg c6] at hi4
        refine lv_lload hx hb dX1_worn_25 (lv_at hl 4 rfl) ?_
        refine lv_aload_n hx hb dX1_worn_27 rfl (lv_at hl 0 rfl) ?_
        refine lv_lload_n hx hb dX1_worn_28 rfl (lv_at hl 1 rfl) ?_
        refine lv_iload hx hb dX1_worn_29 (lv_at hl 5 rfl) ?_
        obtain ⟨r7, h8, hi4⟩ := jb_out hi4
        refine kX1_behind ⟨hx, hb, hml, hown, hts⟩ qw_33 hP hK h8 hl.1 ⟨Nat.le_trans (by decide) hR.1, Nat.le_trans (by decide) hR.2.1, hR.2.2⟩ (Nat.le_of_ble_eq_true rfl) dX1_worn_31 ?_
        refine lv_iload hx hb dX1_worn_34 (lv_at hl 3 rfl) ?_
        obtain ⟨j9, hi10, hi4⟩ := jb_out hi4
        have key11 : ∀ (ls : Array Slot), lv_has ls 8 [(0, .ref hF), (1, .long v1), (3, .int v3), (4, .int v4), (7, .int v7)] → W p l e R s m args below meth c H locs cells slots Q (F0 m 54 ls [.long j9, .long r7, .long v5]) := by
          intro ls hl
          refine lv_lor hx hb dX1_worn_54 ?_
          refine lv_land hx hb dX1_worn_55 ?_
          refine lv_lstore (lv' := [(5, .long (v5 &&& (r7 ||| j9))), (0, .ref hF), (1, .long v1), (3, .int v3), (4, .int v4), (7, .int v7)]) hx hb dX1_worn_56 hl (by decide) rfl (fun ls hl => ?_)
          have hi4 := Option.some.inj hi4
          have e9 : j3 = (v5 &&& (r7 ||| j9)) := (congrArg (fun q => q) hi4).symm
          rw [e9] at key5
          exact key5 ls (lv_sub hl [0, 1, 2, 3, 4, 5] rfl)
        refine lv_if_eq (tgt := 53) hx hb dX1_worn_36 (by decide) (fun c12 => ?_) (fun c12 => ?_)
        · rw [if_pos c12] at hi10
          refine lv_lconst (v := (0 : Int64)) hx hb dX1_worn_53 (by decide) ?_
          have hi10 := Option.some.inj hi10
          have e9 : j9 = (0 : Int64) := (congrArg (fun q => q) hi10).symm
          rw [e9] at key11
          exact key11 ls (lv_sub hl [0, 1, 2, 3, 5] rfl)
        · rw [if_neg c12] at hi10
          refine lv_aload_n hx hb dX1_worn_39 rfl (lv_at hl 0 rfl) ?_
          refine va_get (D := D) (ci := 1) (v := .ref hFs) (C := RX1) (T := TX1) (N := 8) hx hb hts tnX1 hown hK hP 0 rfl rfl 5 (by decide) (hts _ qw_21) (fun _ h9 => h9) rfl dX1_worn_40 ?_
          refine lv_iload hx hb dX1_worn_43 (lv_at hl 5 rfl) ?_
          obtain ⟨g13, hi10⟩ := gd_out hi10
          refine va_lald hx hb hK hP 2 1 rfl rfl g13 dX1_worn_45 ?_
          refine lv_ldc2 (v := (-1 : Int64)) hx hb hown (hts _ qw_34) dX1_worn_46 ?_
          refine lv_lxor hx hb dX1_worn_49 ?_
          refine lv_goto (tgt := 54) hx hb dX1_worn_50 (by decide) ?_
          have hi10 := Option.some.inj hi10
          have e9 : j9 = ((fst v7.toNatClampNeg) ^^^ (-1 : Int64)) := (congrArg (fun q => q) hi10).symm
          rw [e9] at key11
          exact key11 ls (lv_sub hl [0, 1, 2, 3, 5] rfl)
set_option maxHeartbeats 4000000 in
set_option maxRecDepth 100000 in
theorem bX1_worn {n : Nat} {a1 : Int64} {a3 : Int32} {a4 : Int32} {r : Int64} (hx : p.tables.exec = Jvm.exec) (hb : c.code = cX1_worn) (hml : c.maxLocals = 8) (hown : s.vm.findClass RX1 = some m.cls) (hts : ∀ w ∈ tw, w.before args s = true) (hP : va_P D vwCl (wdF cI cJ hF hFr hFs hFc hFw fw fc fwh fbo fra fst fco fro) H) (hK : va_K D vwCl [(cI, .int), (cJ, .long)] s) (hR : 1 ≤ R.frames ∧ 24 ≤ R.locals ∧ cells ≤ R.cells ∧ slots ≤ R.slots) (hm : mX1_worn n fra fst fwh a1 a3 a4 = some r) (ls : Array Slot) (hl : lv_has ls 8 [(0, .ref hF), (1, .long a1), (3, .int a3), (4, .int a4)]) (K : ∀ (pc : Nat) (ls : Array Slot), decode cX1_worn pc = .ok (.lreturn, 1) → W p l e R s m args below meth c H locs cells slots Q (F0 m pc ls [.long r])) : W p l e R s m args below meth c H locs cells slots Q (F0 m 0 ls []) := by
  unfold mX1_worn at hm
  refine lv_aload_n hx hb dX1_worn_0 rfl (lv_at hl 0 rfl) ?_
  refine va_get (D := D) (ci := 1) (v := .long fwh) (C := RX1) (T := TX1) (N := 8) hx hb hts tnX1 hown hK hP 0 rfl rfl 2 (by decide) (hts _ qw_32) (fun _ h9 => h9) rfl dX1_worn_1 ?_
  refine lv_lstore (lv' := [(5, .long fwh), (0, .ref hF), (1, .long a1), (3, .int a3), (4, .int a4)]) hx hb dX1_worn_4 hl (by decide) rfl (fun ls hl => ?_)
  refine lv_iconst (v := (0 : Int32)) hx hb dX1_worn_6 (by decide) ?_
  refine lv_istore (lv' := [(7, .int (0 : Int32)), (5, .long fwh), (0, .ref hF), (1, .long a1), (3, .int a3), (4, .int a4)]) hx hb dX1_worn_7 hl (by decide) rfl (fun ls hl => ?_)
  obtain ⟨y14, h15, hm⟩ := jb_out hm
  refine wX1_worn_L9 hx hb hml hown hts hP hK hR n _ _ _  h15 ls (lv_sub hl [2, 3, 4, 5, 1, 0] rfl) (fun ls hl => ?_)
  refine lv_lload hx hb dX1_worn_64 (lv_at hl 0 rfl) ?_
  have hm := Option.some.inj hm
  subst hm
  exact K 66 ls dX1_worn_66
set_option maxHeartbeats 4000000 in
set_option maxRecDepth 100000 in
theorem tX1_worn (l : Launch) {D : va_G} {n : Nat} {a1 : Int64} {a3 : Int32} {a4 : Int32} {r : Int64} (hm : mX1_worn n fra fst fwh a1 a3 a4 = some r) : Met l yX1_worn (.code yX1_worn cX1_worn 8 (some .long) :: tw) ({ frames := 1, cells := 0, slots := 0, locals := 24 } : Room) (rdP D [.ref hF, .long a1, .int a3, .int a4] (wdF cI cJ hF hFr hFs hFc hFw fw fc fwh fbo fra fst fco fro) [(cI, .int), (cJ, .long)]) (vp_Sl (fun q => q = r)) 0 0 (fun _ => False) := by
  refine Met.ofW (cc := cX1_worn) (maxL := 8) (ret := (some .long)) (by decide) rfl ?_
  intro p e s m args below meth c s₁ B hml hv
  obtain ⟨rfl, hP, hK⟩ := hv
  have hx := B.exec
  have hb := B.bytes
  have hr := B.returns
  have hts : ∀ w ∈ tw, w.before _ s = true := fun w h => atoms_spec (ws := .code yX1_worn cX1_worn 8 (some .long) :: tw) B.pre w (List.mem_cons_of_mem _ h)
  have hown : s.vm.findClass RX1 = some m.cls := findClass_of_methodNamed B.named
  have hlocks := B.notSynchronized
  have hl := lv_entry ([.ref hF, .long a1, .int a3, .int a4]) (n := 8) (Nat.le_of_ble_eq_true rfl)
  rw [lg_entry_eq]
  generalize (lg_sl ([.ref hF, .long a1, .int a3, .int a4]) ++ List.replicate (8 - (lg_sl ([.ref hF, .long a1, .int a3, .int a4])).length) Slot.unset).toArray = ls at hl ⊢
  refine bX1_worn hx hb hml hown hts hP hK ⟨Nat.le_of_ble_eq_true rfl, Nat.le_of_ble_eq_true rfl, Nat.zero_le _, Nat.zero_le _⟩ hm ls hl (fun pc ls hd => ?_)
  exact W.lret hx hb hr (fun t ht hW => ⟨r, rfl, rfl, ht⟩) (fun q h => by cases h) hd
set_option maxHeartbeats 4000000 in
set_option maxRecDepth 100000 in
theorem kX1_worn {own : String} {cc : ByteArray} {nL idx pc : Nat} {ls : Array Slot} {rest : List Value} {n : Nat} {a1 : Int64} {a3 : Int32} {a4 : Int32} {r : Int64} (fx : CallFix p m c cc nL s args tw own) (hq : Cond.methodLink own idx yX1_worn ∈ tw) (hP : va_P D vwCl (wdF cI cJ hF hFr hFs hFc hFw fw fc fwh fbo fra fst fco fro) H) (hK : va_K D vwCl [(cI, .int), (cJ, .long)] s) (hm : mX1_worn n fra fst fwh a1 a3 a4 = some r) (hsz : ls.size = nL) (hR : 2 ≤ R.frames ∧ 51 ≤ R.locals ∧ cells ≤ R.cells ∧ slots ≤ R.slots) (hst : (rest.map fun v => v.category).sum ≤ 8) (hd : decode cc pc = .ok (.invokevirtual idx, 3)) (kk : W p l e R s m args below meth c H locs cells slots Q (F0 m (pc + 3) ls (.long r :: rest))) : W p l e R s m args below meth c H locs cells slots Q (F0 m pc ls (.int a4 :: .int a3 :: .long a1 :: .ref hF :: rest)) := by
  exact vp_callSl (va_Run.run (va_runV (As := [.long a1, .int a3, .int a4]) (rest := rest) fx (tX1_worn l hm) (cwV 3 fx.2.2.2.2 (tw_V hq qw_35 qw_36 qw_18 qw_37) rfl rfl rfl (by decide +kernel) ⟨hR.1, hR.2.1⟩) ⟨rdP_bl, va_recv hK hP (ci := 1) (q0 := 0) rfl rfl, rdP_ok hP hK⟩ rfl rfl hsz rfl (lv_room hst) hd ⟨hR.2.2.1, hR.2.2.2⟩)) (fun r9 hr9 => by first | (rw [hr9]; exact kk) | (rw [hr9.1]; exact kk))
-- X1_rectangle
def mX1_rectangle_L59 (n : Nat) (v4 : Int32) (v5 : Int64) (fw : Int32) : Nat → (Int64) → (Int32) → Option ((Int64))
  | 0, _, _ => none
  | k + 1, v7, v9 => (if v4 ≤ v9 then some (v7) else mX1_rectangle_L59 n v4 v5 fw k (v7 ||| (jlshl v5 (v9 * fw))) (v9 + (1 : Int32)))
def mX1_rectangle (n : Nat) (fco : Nat → Int32) (fro : Nat → Int32) (fw : Int32) (a1 : Int32) (a2 : Int32) : Option Int64 :=
  gd (ib a2 49) (gd (ib a1 49) (gd (ib a2 49) (gd (ib a1 49) ((if (((fco a2.toNatClampNeg) - (fco a1.toNatClampNeg)) + (1 : Int32)) ≤ 0 then (some (0 : Int64)) else (if 0 < (((fro a2.toNatClampNeg) - (fro a1.toNatClampNeg)) + (1 : Int32)) then jb (mX1_rectangle_L59 n (((fro a2.toNatClampNeg) - (fro a1.toNatClampNeg)) + (1 : Int32)) (jlshl ((jlshl (1 : Int64) (((fco a2.toNatClampNeg) - (fco a1.toNatClampNeg)) + (1 : Int32))) - (1 : Int64)) a1) fw n (0 : Int64) (0 : Int32)) (fun (y9 : Int64) => (some y9)) else (some (0 : Int64))))))))
theorem dX1_rectangle_0 : decode cX1_rectangle 0 = .ok (.aload_n 0, 1) := by decide +kernel
theorem dX1_rectangle_1 : decode cX1_rectangle 1 = .ok (.getfield 19, 3) := by decide +kernel
theorem dX1_rectangle_4 : decode cX1_rectangle 4 = .ok (.iload_n 2, 1) := by decide +kernel
theorem dX1_rectangle_5 : decode cX1_rectangle 5 = .ok (.iaload, 1) := by decide +kernel
theorem dX1_rectangle_6 : decode cX1_rectangle 6 = .ok (.aload_n 0, 1) := by decide +kernel
theorem dX1_rectangle_7 : decode cX1_rectangle 7 = .ok (.getfield 19, 3) := by decide +kernel
theorem dX1_rectangle_10 : decode cX1_rectangle 10 = .ok (.iload_n 1, 1) := by decide +kernel
theorem dX1_rectangle_11 : decode cX1_rectangle 11 = .ok (.iaload, 1) := by decide +kernel
theorem dX1_rectangle_12 : decode cX1_rectangle 12 = .ok (.isub, 1) := by decide +kernel
theorem dX1_rectangle_13 : decode cX1_rectangle 13 = .ok (.iconst 1, 1) := by decide +kernel
theorem dX1_rectangle_14 : decode cX1_rectangle 14 = .ok (.iadd, 1) := by decide +kernel
theorem dX1_rectangle_15 : decode cX1_rectangle 15 = .ok (.istore_n 3, 1) := by decide +kernel
theorem dX1_rectangle_16 : decode cX1_rectangle 16 = .ok (.aload_n 0, 1) := by decide +kernel
theorem dX1_rectangle_17 : decode cX1_rectangle 17 = .ok (.getfield 22, 3) := by decide +kernel
theorem dX1_rectangle_20 : decode cX1_rectangle 20 = .ok (.iload_n 2, 1) := by decide +kernel
theorem dX1_rectangle_21 : decode cX1_rectangle 21 = .ok (.iaload, 1) := by decide +kernel
theorem dX1_rectangle_22 : decode cX1_rectangle 22 = .ok (.aload_n 0, 1) := by decide +kernel
theorem dX1_rectangle_23 : decode cX1_rectangle 23 = .ok (.getfield 22, 3) := by decide +kernel
theorem dX1_rectangle_26 : decode cX1_rectangle 26 = .ok (.iload_n 1, 1) := by decide +kernel
theorem dX1_rectangle_27 : decode cX1_rectangle 27 = .ok (.iaload, 1) := by decide +kernel
theorem dX1_rectangle_28 : decode cX1_rectangle 28 = .ok (.isub, 1) := by decide +kernel
theorem dX1_rectangle_29 : decode cX1_rectangle 29 = .ok (.iconst 1, 1) := by decide +kernel
theorem dX1_rectangle_30 : decode cX1_rectangle 30 = .ok (.iadd, 1) := by decide +kernel
theorem dX1_rectangle_31 : decode cX1_rectangle 31 = .ok (.istore 4, 2) := by decide +kernel
theorem dX1_rectangle_33 : decode cX1_rectangle 33 = .ok (.iload_n 3, 1) := by decide +kernel
theorem dX1_rectangle_34 : decode cX1_rectangle 34 = .ok (.ifCond .le 8, 3) := by decide +kernel
theorem dX1_rectangle_37 : decode cX1_rectangle 37 = .ok (.iload 4, 2) := by decide +kernel
theorem dX1_rectangle_39 : decode cX1_rectangle 39 = .ok (.ifCond .gt 5, 3) := by decide +kernel
theorem dX1_rectangle_42 : decode cX1_rectangle 42 = .ok (.lconst 0, 1) := by decide +kernel
theorem dX1_rectangle_43 : decode cX1_rectangle 43 = .ok (.lreturn, 1) := by decide +kernel
theorem dX1_rectangle_44 : decode cX1_rectangle 44 = .ok (.lconst 1, 1) := by decide +kernel
theorem dX1_rectangle_45 : decode cX1_rectangle 45 = .ok (.iload_n 3, 1) := by decide +kernel
theorem dX1_rectangle_46 : decode cX1_rectangle 46 = .ok (.lshl, 1) := by decide +kernel
theorem dX1_rectangle_47 : decode cX1_rectangle 47 = .ok (.lconst 1, 1) := by decide +kernel
theorem dX1_rectangle_48 : decode cX1_rectangle 48 = .ok (.lsub, 1) := by decide +kernel
theorem dX1_rectangle_49 : decode cX1_rectangle 49 = .ok (.iload_n 1, 1) := by decide +kernel
theorem dX1_rectangle_50 : decode cX1_rectangle 50 = .ok (.lshl, 1) := by decide +kernel
theorem dX1_rectangle_51 : decode cX1_rectangle 51 = .ok (.lstore 5, 2) := by decide +kernel
theorem dX1_rectangle_53 : decode cX1_rectangle 53 = .ok (.lconst 0, 1) := by decide +kernel
theorem dX1_rectangle_54 : decode cX1_rectangle 54 = .ok (.lstore 7, 2) := by decide +kernel
theorem dX1_rectangle_56 : decode cX1_rectangle 56 = .ok (.iconst 0, 1) := by decide +kernel
theorem dX1_rectangle_57 : decode cX1_rectangle 57 = .ok (.istore 9, 2) := by decide +kernel
theorem dX1_rectangle_59 : decode cX1_rectangle 59 = .ok (.iload 9, 2) := by decide +kernel
theorem dX1_rectangle_61 : decode cX1_rectangle 61 = .ok (.iload 4, 2) := by decide +kernel
theorem dX1_rectangle_63 : decode cX1_rectangle 63 = .ok (.if_icmp .ge 24, 3) := by decide +kernel
theorem dX1_rectangle_66 : decode cX1_rectangle 66 = .ok (.lload 7, 2) := by decide +kernel
theorem dX1_rectangle_68 : decode cX1_rectangle 68 = .ok (.lload 5, 2) := by decide +kernel
theorem dX1_rectangle_70 : decode cX1_rectangle 70 = .ok (.iload 9, 2) := by decide +kernel
theorem dX1_rectangle_72 : decode cX1_rectangle 72 = .ok (.aload_n 0, 1) := by decide +kernel
theorem dX1_rectangle_73 : decode cX1_rectangle 73 = .ok (.getfield 29, 3) := by decide +kernel
theorem dX1_rectangle_76 : decode cX1_rectangle 76 = .ok (.imul, 1) := by decide +kernel
theorem dX1_rectangle_77 : decode cX1_rectangle 77 = .ok (.lshl, 1) := by decide +kernel
theorem dX1_rectangle_78 : decode cX1_rectangle 78 = .ok (.lor, 1) := by decide +kernel
theorem dX1_rectangle_79 : decode cX1_rectangle 79 = .ok (.lstore 7, 2) := by decide +kernel
theorem dX1_rectangle_81 : decode cX1_rectangle 81 = .ok (.iinc 9 1, 3) := by decide +kernel
theorem dX1_rectangle_84 : decode cX1_rectangle 84 = .ok (.goto (-25), 3) := by decide +kernel
theorem dX1_rectangle_87 : decode cX1_rectangle 87 = .ok (.lload 7, 2) := by decide +kernel
theorem dX1_rectangle_89 : decode cX1_rectangle 89 = .ok (.lreturn, 1) := by decide +kernel
set_option maxHeartbeats 4000000 in
set_option maxRecDepth 100000 in
theorem wX1_rectangle_L59 {n : Nat} {v4 : Int32} {v5 : Int64} (hx : p.tables.exec = Jvm.exec) (hb : c.code = cX1_rectangle) (hml : c.maxLocals = 10) (hown : s.vm.findClass RX1 = some m.cls) (hts : ∀ w ∈ tw, w.before args s = true) (hP : va_P D vwCl (wdF cI cJ hF hFr hFs hFc hFw fw fc fwh fbo fra fst fco fro) H) (hK : va_K D vwCl [(cI, .int), (cJ, .long)] s) (hR : 0 ≤ R.frames ∧ 0 ≤ R.locals ∧ cells ≤ R.cells ∧ slots ≤ R.slots) : ∀ (k : Nat) (v7 : Int64) (v9 : Int32) (x7 : Int64), mX1_rectangle_L59 n v4 v5 fw k v7 v9 = some (x7) → ∀ ls : Array Slot, lv_has ls 10 [(0, .ref hF), (4, .int v4), (5, .long v5), (7, .long v7), (9, .int v9)] → (∀ ls : Array Slot, lv_has ls 10 [(7, .long x7)] → W p l e R s m args below meth c H locs cells slots Q (F0 m 87 ls [])) → W p l e R s m args below meth c H locs cells slots Q (F0 m 59 ls []) := by
  intro k
  induction k with
  | zero => intro v7 v9 x7 hm; rw [mX1_rectangle_L59] at hm; cases hm
  | succ k ih =>
    intro v7 v9 x7 hm ls hl K0
    rw [mX1_rectangle_L59] at hm
    refine lv_iload hx hb dX1_rectangle_59 (lv_at hl 4 rfl) ?_
    refine lv_iload hx hb dX1_rectangle_61 (lv_at hl 1 rfl) ?_
    refine lv_icmp_ge (tgt := 87) hx hb dX1_rectangle_63 (by decide) (fun c8 => ?_) (fun c8 => ?_)
    · rw [if_pos c8] at hm
      have hm := Option.some.inj hm
      have e9 : x7 = v7 := (congrArg (fun q => q) hm).symm
      rw [e9] at K0
      exact K0 ls (lv_sub hl [3] rfl)
    · rw [if_neg c8] at hm
      refine lv_lload hx hb dX1_rectangle_66 (lv_at hl 3 rfl) ?_
      refine lv_lload hx hb dX1_rectangle_68 (lv_at hl 2 rfl) ?_
      refine lv_iload hx hb dX1_rectangle_70 (lv_at hl 4 rfl) ?_
      refine lv_aload_n hx hb dX1_rectangle_72 rfl (lv_at hl 0 rfl) ?_
      refine va_get (D := D) (ci := 1) (v := .int fw) (C := RX1) (T := TX1) (N := 8) hx hb hts tnX1 hown hK hP 0 rfl rfl 0 (by decide) (hts _ qw_40) (fun _ h9 => h9) rfl dX1_rectangle_73 ?_
      refine lv_imul hx hb dX1_rectangle_76 ?_
      refine lv_lshl (v := (jlshl v5 (v9 * fw))) hx hb dX1_rectangle_77 rfl ?_
      refine lv_lor hx hb dX1_rectangle_78 ?_
      refine lv_lstore (lv' := [(7, .long (v7 ||| (jlshl v5 (v9 * fw)))), (0, .ref hF), (4, .int v4), (5, .long v5), (9, .int v9)]) hx hb dX1_rectangle_79 hl (by decide) rfl (fun ls hl => ?_)
      refine lv_iinc (v := (v9 + (1 : Int32))) (lv' := [(9, .int (v9 + (1 : Int32))), (7, .long (v7 ||| (jlshl v5 (v9 * fw)))), (0, .ref hF), (4, .int v4), (5, .long v5)]) hx hb dX1_rectangle_81 hl (k := 4) rfl (by rfl) (by decide) rfl (fun ls hl => ?_)
      refine lv_goto (tgt := 59) hx hb dX1_rectangle_84 (by decide) ?_
      exact ih _ _ _ hm ls (lv_sub hl [2, 3, 4, 1, 0] rfl) K0
set_option maxHeartbeats 4000000 in
set_option maxRecDepth 100000 in
theorem bX1_rectangle {n : Nat} {a1 : Int32} {a2 : Int32} {r : Int64} (hx : p.tables.exec = Jvm.exec) (hb : c.code = cX1_rectangle) (hml : c.maxLocals = 10) (hown : s.vm.findClass RX1 = some m.cls) (hts : ∀ w ∈ tw, w.before args s = true) (hP : va_P D vwCl (wdF cI cJ hF hFr hFs hFc hFw fw fc fwh fbo fra fst fco fro) H) (hK : va_K D vwCl [(cI, .int), (cJ, .long)] s) (hR : 0 ≤ R.frames ∧ 0 ≤ R.locals ∧ cells ≤ R.cells ∧ slots ≤ R.slots) (hm : mX1_rectangle n fco fro fw a1 a2 = some r) (ls : Array Slot) (hl : lv_has ls 10 [(0, .ref hF), (1, .int a1), (2, .int a2)]) (K : ∀ (pc : Nat) (ls : Array Slot), decode cX1_rectangle pc = .ok (.lreturn, 1) → W p l e R s m args below meth c H locs cells slots Q (F0 m pc ls [.long r])) : W p l e R s m args below meth c H locs cells slots Q (F0 m 0 ls []) := by
  unfold mX1_rectangle at hm
  refine lv_aload_n hx hb dX1_rectangle_0 rfl (lv_at hl 0 rfl) ?_
  refine va_get (D := D) (ci := 1) (v := .ref hFc) (C := RX1) (T := TX1) (N := 8) hx hb hts tnX1 hown hK hP 0 rfl rfl 6 (by decide) (hts _ qw_38) (fun _ h9 => h9) rfl dX1_rectangle_1 ?_
  refine lv_iload_n hx hb dX1_rectangle_4 rfl (lv_at hl 2 rfl) ?_
  obtain ⟨g1, hm⟩ := gd_out hm
  refine va_iald hx hb hK hP 3 0 rfl rfl g1 dX1_rectangle_5 ?_
  refine lv_aload_n hx hb dX1_rectangle_6 rfl (lv_at hl 0 rfl) ?_
  refine va_get (D := D) (ci := 1) (v := .ref hFc) (C := RX1) (T := TX1) (N := 8) hx hb hts tnX1 hown hK hP 0 rfl rfl 6 (by decide) (hts _ qw_38) (fun _ h9 => h9) rfl dX1_rectangle_7 ?_
  refine lv_iload_n hx hb dX1_rectangle_10 rfl (lv_at hl 1 rfl) ?_
  obtain ⟨g2, hm⟩ := gd_out hm
  refine va_iald hx hb hK hP 3 0 rfl rfl g2 dX1_rectangle_11 ?_
  refine lv_isub hx hb dX1_rectangle_12 ?_
  refine lv_iconst (v := (1 : Int32)) hx hb dX1_rectangle_13 (by decide) ?_
  refine lv_iadd hx hb dX1_rectangle_14 ?_
  refine lv_istore_n (lv' := [(3, .int (((fco a2.toNatClampNeg) - (fco a1.toNatClampNeg)) + (1 : Int32))), (0, .ref hF), (1, .int a1), (2, .int a2)]) hx hb dX1_rectangle_15 rfl hl (by decide) rfl (fun ls hl => ?_)
  refine lv_aload_n hx hb dX1_rectangle_16 rfl (lv_at hl 1 rfl) ?_
  refine va_get (D := D) (ci := 1) (v := .ref hFw) (C := RX1) (T := TX1) (N := 8) hx hb hts tnX1 hown hK hP 0 rfl rfl 7 (by decide) (hts _ qw_39) (fun _ h9 => h9) rfl dX1_rectangle_17 ?_
  refine lv_iload_n hx hb dX1_rectangle_20 rfl (lv_at hl 3 rfl) ?_
  obtain ⟨g3, hm⟩ := gd_out hm
  refine va_iald hx hb hK hP 4 0 rfl rfl g3 dX1_rectangle_21 ?_
  refine lv_aload_n hx hb dX1_rectangle_22 rfl (lv_at hl 1 rfl) ?_
  refine va_get (D := D) (ci := 1) (v := .ref hFw) (C := RX1) (T := TX1) (N := 8) hx hb hts tnX1 hown hK hP 0 rfl rfl 7 (by decide) (hts _ qw_39) (fun _ h9 => h9) rfl dX1_rectangle_23 ?_
  refine lv_iload_n hx hb dX1_rectangle_26 rfl (lv_at hl 2 rfl) ?_
  obtain ⟨g4, hm⟩ := gd_out hm
  refine va_iald hx hb hK hP 4 0 rfl rfl g4 dX1_rectangle_27 ?_
  refine lv_isub hx hb dX1_rectangle_28 ?_
  refine lv_iconst (v := (1 : Int32)) hx hb dX1_rectangle_29 (by decide) ?_
  refine lv_iadd hx hb dX1_rectangle_30 ?_
  refine lv_istore (lv' := [(4, .int (((fro a2.toNatClampNeg) - (fro a1.toNatClampNeg)) + (1 : Int32))), (3, .int (((fco a2.toNatClampNeg) - (fco a1.toNatClampNeg)) + (1 : Int32))), (0, .ref hF), (1, .int a1), (2, .int a2)]) hx hb dX1_rectangle_31 hl (by decide) rfl (fun ls hl => ?_)
  refine lv_iload_n hx hb dX1_rectangle_33 rfl (lv_at hl 1 rfl) ?_
  refine lv_if_le (tgt := 42) hx hb dX1_rectangle_34 (by decide) (fun c5 => ?_) (fun c5 => ?_)
  · rw [if_pos c5] at hm
    refine lv_lconst (v := (0 : Int64)) hx hb dX1_rectangle_42 (by decide) ?_
    have hm := Option.some.inj hm
    subst hm
    exact K 43 ls dX1_rectangle_43
  · rw [if_neg c5] at hm
    refine lv_iload hx hb dX1_rectangle_37 (lv_at hl 0 rfl) ?_
    refine lv_if_gt (tgt := 44) hx hb dX1_rectangle_39 (by decide) (fun c6 => ?_) (fun c6 => ?_)
    · rw [if_pos c6] at hm
      refine lv_lconst (v := (1 : Int64)) hx hb dX1_rectangle_44 (by decide) ?_
      refine lv_iload_n hx hb dX1_rectangle_45 rfl (lv_at hl 1 rfl) ?_
      refine lv_lshl (v := (jlshl (1 : Int64) (((fco a2.toNatClampNeg) - (fco a1.toNatClampNeg)) + (1 : Int32)))) hx hb dX1_rectangle_46 rfl ?_
      refine lv_lconst (v := (1 : Int64)) hx hb dX1_rectangle_47 (by decide) ?_
      refine lv_lsub hx hb dX1_rectangle_48 ?_
      refine lv_iload_n hx hb dX1_rectangle_49 rfl (lv_at hl 3 rfl) ?_
      refine lv_lshl (v := (jlshl ((jlshl (1 : Int64) (((fco a2.toNatClampNeg) - (fco a1.toNatClampNeg)) + (1 : Int32))) - (1 : Int64)) a1)) hx hb dX1_rectangle_50 rfl ?_
      refine lv_lstore (lv' := [(5, .long (jlshl ((jlshl (1 : Int64) (((fco a2.toNatClampNeg) - (fco a1.toNatClampNeg)) + (1 : Int32))) - (1 : Int64)) a1)), (4, .int (((fro a2.toNatClampNeg) - (fro a1.toNatClampNeg)) + (1 : Int32))), (3, .int (((fco a2.toNatClampNeg) - (fco a1.toNatClampNeg)) + (1 : Int32))), (0, .ref hF), (1, .int a1), (2, .int a2)]) hx hb dX1_rectangle_51 hl (by decide) rfl (fun ls hl => ?_)
      refine lv_lconst (v := (0 : Int64)) hx hb dX1_rectangle_53 (by decide) ?_
      refine lv_lstore (lv' := [(7, .long (0 : Int64)), (5, .long (jlshl ((jlshl (1 : Int64) (((fco a2.toNatClampNeg) - (fco a1.toNatClampNeg)) + (1 : Int32))) - (1 : Int64)) a1)), (4, .int (((fro a2.toNatClampNeg) - (fro a1.toNatClampNeg)) + (1 : Int32))), (3, .int (((fco a2.toNatClampNeg) - (fco a1.toNatClampNeg)) + (1 : Int32))), (0, .ref hF), (1, .int a1), (2, .int a2)]) hx hb dX1_rectangle_54 hl (by decide) rfl (fun ls hl => ?_)
      refine lv_iconst (v := (0 : Int32)) hx hb dX1_rectangle_56 (by decide) ?_
      refine lv_istore (lv' := [(9, .int (0 : Int32)), (7, .long (0 : Int64)), (5, .long (jlshl ((jlshl (1 : Int64) (((fco a2.toNatClampNeg) - (fco a1.toNatClampNeg)) + (1 : Int32))) - (1 : Int64)) a1)), (4, .int (((fro a2.toNatClampNeg) - (fro a1.toNatClampNeg)) + (1 : Int32))), (3, .int (((fco a2.toNatClampNeg) - (fco a1.toNatClampNeg)) + (1 : Int32))), (0, .ref hF), (1, .int a1), (2, .int a2)]) hx hb dX1_rectangle_57 hl (by decide) rfl (fun ls hl => ?_)
      obtain ⟨y9, h10, hm⟩ := jb_out hm
      refine wX1_rectangle_L59 hx hb hml hown hts hP hK hR n _ _ _  h10 ls (lv_sub hl [5, 3, 2, 1, 0] rfl) (fun ls hl => ?_)
      refine lv_lload hx hb dX1_rectangle_87 (lv_at hl 0 rfl) ?_
      have hm := Option.some.inj hm
      subst hm
      exact K 89 ls dX1_rectangle_89
    · rw [if_neg c6] at hm
      refine lv_lconst (v := (0 : Int64)) hx hb dX1_rectangle_42 (by decide) ?_
      have hm := Option.some.inj hm
      subst hm
      exact K 43 ls dX1_rectangle_43
set_option maxHeartbeats 4000000 in
set_option maxRecDepth 100000 in
theorem tX1_rectangle (l : Launch) {D : va_G} {n : Nat} {a1 : Int32} {a2 : Int32} {r : Int64} (hm : mX1_rectangle n fco fro fw a1 a2 = some r) : Met l yX1_rectangle (.code yX1_rectangle cX1_rectangle 10 (some .long) :: tw) ({ frames := 0, cells := 0, slots := 0, locals := 0 } : Room) (rdP D [.ref hF, .int a1, .int a2] (wdF cI cJ hF hFr hFs hFc hFw fw fc fwh fbo fra fst fco fro) [(cI, .int), (cJ, .long)]) (vp_Sl (fun q => q = r)) 0 0 (fun _ => False) := by
  refine Met.ofW (cc := cX1_rectangle) (maxL := 10) (ret := (some .long)) (by decide) rfl ?_
  intro p e s m args below meth c s₁ B hml hv
  obtain ⟨rfl, hP, hK⟩ := hv
  have hx := B.exec
  have hb := B.bytes
  have hr := B.returns
  have hts : ∀ w ∈ tw, w.before _ s = true := fun w h => atoms_spec (ws := .code yX1_rectangle cX1_rectangle 10 (some .long) :: tw) B.pre w (List.mem_cons_of_mem _ h)
  have hown : s.vm.findClass RX1 = some m.cls := findClass_of_methodNamed B.named
  have hlocks := B.notSynchronized
  have hl := lv_entry ([.ref hF, .int a1, .int a2]) (n := 10) (Nat.le_of_ble_eq_true rfl)
  rw [lg_entry_eq]
  generalize (lg_sl ([.ref hF, .int a1, .int a2]) ++ List.replicate (10 - (lg_sl ([.ref hF, .int a1, .int a2])).length) Slot.unset).toArray = ls at hl ⊢
  refine bX1_rectangle hx hb hml hown hts hP hK ⟨Nat.le_of_ble_eq_true rfl, Nat.le_of_ble_eq_true rfl, Nat.zero_le _, Nat.zero_le _⟩ hm ls hl (fun pc ls hd => ?_)
  exact W.lret hx hb hr (fun t ht hW => ⟨r, rfl, rfl, ht⟩) (fun q h => by cases h) hd
set_option maxHeartbeats 4000000 in
set_option maxRecDepth 100000 in
theorem kX1_rectangle {own : String} {cc : ByteArray} {nL idx pc : Nat} {ls : Array Slot} {rest : List Value} {n : Nat} {a1 : Int32} {a2 : Int32} {r : Int64} (fx : CallFix p m c cc nL s args tw own) (hq : Cond.methodLink own idx yX1_rectangle ∈ tw) (hP : va_P D vwCl (wdF cI cJ hF hFr hFs hFc hFw fw fc fwh fbo fra fst fco fro) H) (hK : va_K D vwCl [(cI, .int), (cJ, .long)] s) (hm : mX1_rectangle n fco fro fw a1 a2 = some r) (hsz : ls.size = nL) (hR : 1 ≤ R.frames ∧ 29 ≤ R.locals ∧ cells ≤ R.cells ∧ slots ≤ R.slots) (hst : (rest.map fun v => v.category).sum ≤ 8) (hd : decode cc pc = .ok (.invokevirtual idx, 3)) (kk : W p l e R s m args below meth c H locs cells slots Q (F0 m (pc + 3) ls (.long r :: rest))) : W p l e R s m args below meth c H locs cells slots Q (F0 m pc ls (.int a2 :: .int a1 :: .ref hF :: rest)) := by
  exact vp_callSl (va_Run.run (va_runV (As := [.int a1, .int a2]) (rest := rest) fx (tX1_rectangle l hm) (cwV 2 fx.2.2.2.2 (tw_V hq qw_41 qw_42 qw_18 qw_43) rfl rfl rfl (by decide +kernel) ⟨hR.1, hR.2.1⟩) ⟨rdP_bl, va_recv hK hP (ci := 1) (q0 := 0) rfl rfl, rdP_ok hP hK⟩ rfl rfl hsz rfl (lv_room hst) hd ⟨hR.2.2.1, hR.2.2.2⟩)) (fun r9 hr9 => by first | (rw [hr9]; exact kk) | (rw [hr9.1]; exact kk))
end
end
section
theorem qw_44 : Cond.static yX8_in ∈ tw := tw_of (by decide +kernel) rfl
theorem qw_45 : Cond.initialized RX8 ∈ tw := tw_of (by decide +kernel) rfl
theorem qw_46 : Cond.code yX8_in cX8_in 6 (some .boolean) ∈ tw := tw_of (by decide +kernel) rfl
theorem qw_47 : Cond.fieldLink RX8 7 "WornShapesModel" "wide" "I" ∈ tw := tw_of (by decide +kernel) rfl
theorem qw_48 : Cond.fieldLink RX8 13 "WornShapesModel" "tall" "I" ∈ tw := tw_of (by decide +kernel) rfl
theorem qw_49 : Cond.instanceMethod yX8_cells ∈ tw := tw_of (by decide +kernel) rfl
theorem qw_50 : Cond.selects RX8 yX8_cells yX8_cells ∈ tw := tw_of (by decide +kernel) rfl
theorem qw_51 : Cond.code yX8_cells cX8_cells 1 (some .int) ∈ tw := tw_of (by decide +kernel) rfl
theorem qw_52 : Cond.methodLink RX8 57 yX8_cells ∈ tw := tw_of (by decide +kernel) rfl
theorem qw_53 : Cond.instanceMethod yX8_all ∈ tw := tw_of (by decide +kernel) rfl
theorem qw_54 : Cond.selects RX8 yX8_all yX8_all ∈ tw := tw_of (by decide +kernel) rfl
theorem qw_55 : Cond.code yX8_all cX8_all 1 (some .long) ∈ tw := tw_of (by decide +kernel) rfl
theorem qw_56 : Cond.constantLong RX8 61 (4) ∈ tw := tw_of (by decide +kernel) rfl
theorem qw_57 : Cond.methodLink RX8 63 yX8_in ∈ tw := tw_of (by decide +kernel) rfl
theorem qw_58 : Cond.static yX8_isPicture ∈ tw := tw_of (by decide +kernel) rfl
theorem qw_59 : Cond.code yX8_isPicture cX8_isPicture 1 (some .boolean) ∈ tw := tw_of (by decide +kernel) rfl
theorem qw_60 : Cond.instanceMethod yX8_isCell ∈ tw := tw_of (by decide +kernel) rfl
theorem qw_61 : Cond.selects RX8 yX8_isCell yX8_isCell ∈ tw := tw_of (by decide +kernel) rfl
theorem qw_62 : Cond.code yX8_isCell cX8_isCell 2 (some .boolean) ∈ tw := tw_of (by decide +kernel) rfl
theorem qw_63 : Cond.static yX8_has ∈ tw := tw_of (by decide +kernel) rfl
theorem qw_64 : Cond.code yX8_has cX8_has 3 (some .boolean) ∈ tw := tw_of (by decide +kernel) rfl
theorem qw_65 : Cond.static yX8_many ∈ tw := tw_of (by decide +kernel) rfl
theorem qw_66 : Cond.code yX8_many cX8_many 5 (some .int) ∈ tw := tw_of (by decide +kernel) rfl
theorem qw_67 : Cond.instanceMethod yX8_boxOf ∈ tw := tw_of (by decide +kernel) rfl
theorem qw_68 : Cond.selects RX8 yX8_boxOf yX8_boxOf ∈ tw := tw_of (by decide +kernel) rfl
theorem qw_69 : Cond.code yX8_boxOf cX8_boxOf 6 (some .long) ∈ tw := tw_of (by decide +kernel) rfl
theorem qw_70 : Cond.instanceMethod yX8_stepFrom ∈ tw := tw_of (by decide +kernel) rfl
theorem qw_71 : Cond.selects RX8 yX8_stepFrom yX8_stepFrom ∈ tw := tw_of (by decide +kernel) rfl
theorem qw_72 : Cond.code yX8_stepFrom cX8_stepFrom 5 (some .int) ∈ tw := tw_of (by decide +kernel) rfl
theorem qw_73 : Cond.methodLink RX8 78 yX8_has ∈ tw := tw_of (by decide +kernel) rfl
theorem qw_74 : Cond.methodLink RX8 96 yX8_stepFrom ∈ tw := tw_of (by decide +kernel) rfl
theorem qw_75 : Cond.instanceMethod yX8_grown ∈ tw := tw_of (by decide +kernel) rfl
theorem qw_76 : Cond.selects RX8 yX8_grown yX8_grown ∈ tw := tw_of (by decide +kernel) rfl
theorem qw_77 : Cond.code yX8_grown cX8_grown 9 (some .long) ∈ tw := tw_of (by decide +kernel) rfl
theorem qw_78 : Cond.fieldLink RX8 24 "WornShapesModel" "rim" "I" ∈ tw := tw_of (by decide +kernel) rfl
theorem qw_79 : Cond.instanceMethod yX8_worn ∈ tw := tw_of (by decide +kernel) rfl
theorem qw_80 : Cond.selects RX8 yX8_worn yX8_worn ∈ tw := tw_of (by decide +kernel) rfl
theorem qw_81 : Cond.code yX8_worn cX8_worn 10 (some .long) ∈ tw := tw_of (by decide +kernel) rfl
section
variable {p : Program} {l : Launch} {e : Env} {R : Room} {s : State} {m : MethodId} {args : Array Value} {below : List Frame} {meth : Method} {c : Code} {H : Heap} {locs : List Loc} {cells slots : Nat} {Q : State → Prop} {D : va_G} {hF : Nat} {hFr : Nat} {hFs : Nat} {hFc : Nat} {hFw : Nat} {hS : Nat} {hSs : Nat} {hG : Nat} {hGa : Nat} {hQ : Nat} {hQw : Nat} {hI : Nat} {hR : Nat} {hRh : Nat} {hRm : Nat} {hB : Nat} {hBw : Nat} {hX : Nat} {hXp : Nat} {hXg : Nat} {hG0 : Nat} {hGa0 : Nat} {hG1 : Nat} {hGa1 : Nat} {hG2 : Nat} {hGa2 : Nat} {hM : Nat} {hM1 : Nat} {hM2 : Nat} {hM3 : Nat} {hM4 : Nat} {hM5 : Nat} {hM6 : Nat} {hM7 : Nat} {hM8 : Nat} {hM9 : Nat} {hM10 : Nat} {hM11 : Nat} {tS : Nat} {tA : Nat} {cI : ClassId} {cJ : ClassId} {cG : ClassId} {fw : Int32} {fc : Int32} {fwh : Int64} {fbo : Int64} {fra : Nat → Int32} {fco : Nat → Int32} {fro : Nat → Int32} {fst : Nat → Int64} {srim : Int32} {sst : Nat → Int32} {gsz : Int32} {gac : Nat → Int32} {qln : Int32} {qwy : Nat → Int32} {ijn : Int32} {rsz : Int32} {rhi : Nat → Int32} {rmi : Nat → Int32} {bsz : Int32} {bfi : Int32} {bla : Int32} {bar : Int32} {bwi : Nat → Int64} {xpi : Nat → Int64} {gs0 : Int32} {gs1 : Int32} {gs2 : Int32} {ga0 : Nat → Int32} {ga1 : Nat → Int32} {ga2 : Nat → Int32} {mw : Int32} {mt : Int32} {mrim : Int32} {mjn : Int32} {mhm : Int32} {mpn : Int32} {mbm : Int32} {mgm : Int32} {mpi : Nat → Int64} {mbe : Nat → Int64} {mgr : Nat → Int64} {mle : Nat → Int64} {mst : Nat → Int32} {mam : Nat → Int32} {mac : Nat → Int32} {mro : Nat → Int32} {mhi : Nat → Int32} {mmi : Nat → Int32} {mtr : Nat → Int32}
-- X8_in
def mX8_in (a0 : Int64) (a2 : Int64) (a4 : Int64) : Int32 :=
  (if a0 < a2 then (0 : Int32) else (if a4 < a0 then (0 : Int32) else (1 : Int32)))
theorem dX8_in_0 : decode cX8_in 0 = .ok (.lload_n 0, 1) := by decide +kernel
theorem dX8_in_1 : decode cX8_in 1 = .ok (.lload_n 2, 1) := by decide +kernel
theorem dX8_in_2 : decode cX8_in 2 = .ok (.lcmp, 1) := by decide +kernel
theorem dX8_in_3 : decode cX8_in 3 = .ok (.ifCond .lt 14, 3) := by decide +kernel
theorem dX8_in_6 : decode cX8_in 6 = .ok (.lload_n 0, 1) := by decide +kernel
theorem dX8_in_7 : decode cX8_in 7 = .ok (.lload 4, 2) := by decide +kernel
theorem dX8_in_9 : decode cX8_in 9 = .ok (.lcmp, 1) := by decide +kernel
theorem dX8_in_10 : decode cX8_in 10 = .ok (.ifCond .gt 7, 3) := by decide +kernel
theorem dX8_in_13 : decode cX8_in 13 = .ok (.iconst 1, 1) := by decide +kernel
theorem dX8_in_14 : decode cX8_in 14 = .ok (.goto 4, 3) := by decide +kernel
theorem dX8_in_17 : decode cX8_in 17 = .ok (.iconst 0, 1) := by decide +kernel
theorem dX8_in_18 : decode cX8_in 18 = .ok (.ireturn, 1) := by decide +kernel
set_option maxHeartbeats 4000000 in
set_option maxRecDepth 100000 in
theorem bX8_in {a0 : Int64} {a2 : Int64} {a4 : Int64} {r : Int32} (hx : p.tables.exec = Jvm.exec) (hb : c.code = cX8_in) (hml : c.maxLocals = 6) (hown : s.vm.findClass RX8 = some m.cls) (hts : ∀ w ∈ tw, w.before args s = true) (hR : 0 ≤ R.frames ∧ 0 ≤ R.locals ∧ cells ≤ R.cells ∧ slots ≤ R.slots) (hm : mX8_in a0 a2 a4 = r) (ls : Array Slot) (hl : lv_has ls 6 [(0, .long a0), (2, .long a2), (4, .long a4)]) (K : ∀ (pc : Nat) (ls : Array Slot), decode cX8_in pc = .ok (.ireturn, 1) → narrow .boolean (.int r) = .int r → W p l e R s m args below meth c H locs cells slots Q (F0 m pc ls [.int r])) : W p l e R s m args below meth c H locs cells slots Q (F0 m 0 ls []) := by
  unfold mX8_in at hm
  refine lv_lload_n hx hb dX8_in_0 rfl (lv_at hl 0 rfl) ?_
  refine lv_lload_n hx hb dX8_in_1 rfl (lv_at hl 1 rfl) ?_
  refine W.lcmp hx hb dX8_in_2 ?_
  refine lv_if_lt (tgt := 17) hx hb dX8_in_3 (by decide) (fun c1 => ?_) (fun c1 => ?_)
  · have c1 := (lg_cmp_lt a0 a2).mp c1
    rw [if_pos c1] at hm
    refine lv_iconst (v := (0 : Int32)) hx hb dX8_in_17 (by decide) ?_
    subst hm
    exact K 18 ls dX8_in_18 rfl
  · have c1 := fun h9 => c1 ((lg_cmp_lt a0 a2).mpr h9)
    rw [if_neg c1] at hm
    refine lv_lload_n hx hb dX8_in_6 rfl (lv_at hl 0 rfl) ?_
    refine lv_lload hx hb dX8_in_7 (lv_at hl 2 rfl) ?_
    refine W.lcmp hx hb dX8_in_9 ?_
    refine lv_if_gt (tgt := 17) hx hb dX8_in_10 (by decide) (fun c2 => ?_) (fun c2 => ?_)
    · have c2 := (lg_cmp_gt a0 a4).mp c2
      rw [if_pos c2] at hm
      refine lv_iconst (v := (0 : Int32)) hx hb dX8_in_17 (by decide) ?_
      subst hm
      exact K 18 ls dX8_in_18 rfl
    · have c2 := fun h9 => c2 ((lg_cmp_gt a0 a4).mpr h9)
      rw [if_neg c2] at hm
      refine lv_iconst (v := (1 : Int32)) hx hb dX8_in_13 (by decide) ?_
      refine lv_goto (tgt := 18) hx hb dX8_in_14 (by decide) ?_
      subst hm
      exact K 18 ls dX8_in_18 rfl
set_option maxHeartbeats 4000000 in
set_option maxRecDepth 100000 in
theorem tX8_in (l : Launch) {a0 : Int64} {a2 : Int64} {a4 : Int64} {r : Int32} (hm : mX8_in a0 a2 a4 = r) : Met l yX8_in (.code yX8_in cX8_in 6 (some .boolean) :: tw) ({ frames := 0, cells := 0, slots := 0, locals := 0 } : Room) (va_Pc [.long a0, .long a2, .long a4] (fun _ => True)) (vp_Si (fun q => q = r ∧ narrow .boolean (.int q) = .int q)) 0 0 (fun _ => False) := by
  refine Met.ofW (cc := cX8_in) (maxL := 6) (ret := (some .boolean)) (by decide) rfl ?_
  intro p e s m args below meth c s₁ B hml hv
  obtain ⟨rfl, -⟩ := hv
  have hx := B.exec
  have hb := B.bytes
  have hr := B.returns
  have hts : ∀ w ∈ tw, w.before _ s = true := fun w h => atoms_spec (ws := .code yX8_in cX8_in 6 (some .boolean) :: tw) B.pre w (List.mem_cons_of_mem _ h)
  have hown : s.vm.findClass RX8 = some m.cls := findClass_of_methodNamed B.named
  have hlocks := B.notSynchronized
  have hl := lv_entry ([.long a0, .long a2, .long a4]) (n := 6) (Nat.le_of_ble_eq_true rfl)
  rw [lg_entry_eq]
  generalize (lg_sl ([.long a0, .long a2, .long a4]) ++ List.replicate (6 - (lg_sl ([.long a0, .long a2, .long a4])).length) Slot.unset).toArray = ls at hl ⊢
  refine bX8_in hx hb hml hown hts ⟨Nat.le_of_ble_eq_true rfl, Nat.le_of_ble_eq_true rfl, Nat.zero_le _, Nat.zero_le _⟩ hm ls hl (fun pc ls hd hz => ?_)
  exact W.zret hx hb hr hz (fun t ht hW => ⟨r, rfl, ⟨rfl, hz⟩, ht⟩) (fun q h => by cases h) hd
set_option maxHeartbeats 4000000 in
set_option maxRecDepth 100000 in
theorem kX8_in {own : String} {cc : ByteArray} {nL idx pc : Nat} {ls : Array Slot} {rest : List Value} {a0 : Int64} {a2 : Int64} {a4 : Int64} (fx : CallFix p m c cc nL s args tw own) (hq : Cond.methodLink own idx yX8_in ∈ tw) (hsz : ls.size = nL) (hR : 1 ≤ R.frames ∧ 25 ≤ R.locals ∧ cells ≤ R.cells ∧ slots ≤ R.slots) (hst : (rest.map fun v => v.category).sum ≤ 8) (hd : decode cc pc = .ok (.invokestatic idx, 3)) (kk : W p l e R s m args below meth c H locs cells slots Q (F0 m (pc + 3) ls (.int (mX8_in a0 a2 a4) :: rest))) : W p l e R s m args below meth c H locs cells slots Q (F0 m pc ls (.long a4 :: .long a2 :: .long a0 :: rest)) := by
  exact vp_callSi (va_Run.run (va_runS (As := [.long a0, .long a2, .long a4]) (rest := rest) fx (tX8_in l rfl) (va_cwS 3 fx.2.2.2.2 (tw_S2 hq qw_44 qw_45 qw_46) rfl rfl rfl (by decide +kernel) ⟨hR.1, hR.2.1⟩) ⟨fun a U g mk q => q, fun U hU hW => ⟨rfl, trivial⟩⟩ rfl rfl hsz rfl (lv_room hst) hd ⟨hR.2.2.1, hR.2.2.2⟩)) (fun r9 hr9 => by first | (rw [hr9]; exact kk) | (rw [hr9.1]; exact kk))
theorem zn_in (a b c : Int64) : narrow .boolean (.int (mX8_in a b c)) = .int (mX8_in a b c) := by
  unfold mX8_in
  repeat' split
  all_goals rfl
-- X8_cells
def mX8_cells (mw : Int32) (mt : Int32) : Int32 :=
  (mw * mt)
theorem dX8_cells_0 : decode cX8_cells 0 = .ok (.aload_n 0, 1) := by decide +kernel
theorem dX8_cells_1 : decode cX8_cells 1 = .ok (.getfield 7, 3) := by decide +kernel
theorem dX8_cells_4 : decode cX8_cells 4 = .ok (.aload_n 0, 1) := by decide +kernel
theorem dX8_cells_5 : decode cX8_cells 5 = .ok (.getfield 13, 3) := by decide +kernel
theorem dX8_cells_8 : decode cX8_cells 8 = .ok (.imul, 1) := by decide +kernel
theorem dX8_cells_9 : decode cX8_cells 9 = .ok (.ireturn, 1) := by decide +kernel
set_option maxHeartbeats 4000000 in
set_option maxRecDepth 100000 in
theorem bX8_cells {r : Int32} (hx : p.tables.exec = Jvm.exec) (hb : c.code = cX8_cells) (hml : c.maxLocals = 1) (hown : s.vm.findClass RX8 = some m.cls) (hts : ∀ w ∈ tw, w.before args s = true) (hP : va_P D vwCl (wdM cJ cI hM hM1 hM2 hM3 hM4 hM5 hM6 hM7 hM8 hM9 hM10 hM11 mw mt mrim mjn mhm mpn mbm mgm mpi mst mam mac mro mbe mhi mmi mgr mtr mle) H) (hK : va_K D vwCl [(cI, .int), (cJ, .long)] s) (hR : 0 ≤ R.frames ∧ 0 ≤ R.locals ∧ cells ≤ R.cells ∧ slots ≤ R.slots) (hm : mX8_cells mw mt = r) (ls : Array Slot) (hl : lv_has ls 1 [(0, .ref hM)]) (K : ∀ (pc : Nat) (ls : Array Slot), decode cX8_cells pc = .ok (.ireturn, 1) → W p l e R s m args below meth c H locs cells slots Q (F0 m pc ls [.int r])) : W p l e R s m args below meth c H locs cells slots Q (F0 m 0 ls []) := by
  unfold mX8_cells at hm
  refine lv_aload_n hx hb dX8_cells_0 rfl (lv_at hl 0 rfl) ?_
  refine va_get (D := D) (ci := 8) (v := .int mw) (C := RX8) (T := TX8) (N := 19) hx hb hts tnX8 hown hK hP 0 rfl rfl 0 (by decide) (hts _ qw_47) (fun _ h9 => h9) rfl dX8_cells_1 ?_
  refine lv_aload_n hx hb dX8_cells_4 rfl (lv_at hl 0 rfl) ?_
  refine va_get (D := D) (ci := 8) (v := .int mt) (C := RX8) (T := TX8) (N := 19) hx hb hts tnX8 hown hK hP 0 rfl rfl 1 (by decide) (hts _ qw_48) (fun _ h9 => h9) rfl dX8_cells_5 ?_
  refine lv_imul hx hb dX8_cells_8 ?_
  subst hm
  exact K 9 ls dX8_cells_9
set_option maxHeartbeats 4000000 in
set_option maxRecDepth 100000 in
theorem tX8_cells (l : Launch) {D : va_G} {r : Int32} (hm : mX8_cells mw mt = r) : Met l yX8_cells (.code yX8_cells cX8_cells 1 (some .int) :: tw) ({ frames := 0, cells := 0, slots := 0, locals := 0 } : Room) (rdP D [.ref hM] (wdM cJ cI hM hM1 hM2 hM3 hM4 hM5 hM6 hM7 hM8 hM9 hM10 hM11 mw mt mrim mjn mhm mpn mbm mgm mpi mst mam mac mro mbe mhi mmi mgr mtr mle) [(cI, .int), (cJ, .long)]) (vp_Si (fun q => q = r)) 0 0 (fun _ => False) := by
  refine Met.ofW (cc := cX8_cells) (maxL := 1) (ret := (some .int)) (by decide) rfl ?_
  intro p e s m args below meth c s₁ B hml hv
  obtain ⟨rfl, hP, hK⟩ := hv
  have hx := B.exec
  have hb := B.bytes
  have hr := B.returns
  have hts : ∀ w ∈ tw, w.before _ s = true := fun w h => atoms_spec (ws := .code yX8_cells cX8_cells 1 (some .int) :: tw) B.pre w (List.mem_cons_of_mem _ h)
  have hown : s.vm.findClass RX8 = some m.cls := findClass_of_methodNamed B.named
  have hlocks := B.notSynchronized
  have hl := lv_entry ([.ref hM]) (n := 1) (Nat.le_of_ble_eq_true rfl)
  rw [lg_entry_eq]
  generalize (lg_sl ([.ref hM]) ++ List.replicate (1 - (lg_sl ([.ref hM])).length) Slot.unset).toArray = ls at hl ⊢
  refine bX8_cells hx hb hml hown hts hP hK ⟨Nat.le_of_ble_eq_true rfl, Nat.le_of_ble_eq_true rfl, Nat.zero_le _, Nat.zero_le _⟩ hm ls hl (fun pc ls hd => ?_)
  exact W.iret hx hb hr (fun t ht hW => ⟨r, rfl, rfl, ht⟩) (fun q h => by cases h) hd
set_option maxHeartbeats 4000000 in
set_option maxRecDepth 100000 in
theorem kX8_cells {own : String} {cc : ByteArray} {nL idx pc : Nat} {ls : Array Slot} {rest : List Value} (fx : CallFix p m c cc nL s args tw own) (hq : Cond.methodLink own idx yX8_cells ∈ tw) (hP : va_P D vwCl (wdM cJ cI hM hM1 hM2 hM3 hM4 hM5 hM6 hM7 hM8 hM9 hM10 hM11 mw mt mrim mjn mhm mpn mbm mgm mpi mst mam mac mro mbe mhi mmi mgr mtr mle) H) (hK : va_K D vwCl [(cI, .int), (cJ, .long)] s) (hsz : ls.size = nL) (hR : 1 ≤ R.frames ∧ 20 ≤ R.locals ∧ cells ≤ R.cells ∧ slots ≤ R.slots) (hst : (rest.map fun v => v.category).sum ≤ 8) (hd : decode cc pc = .ok (.invokevirtual idx, 3)) (kk : W p l e R s m args below meth c H locs cells slots Q (F0 m (pc + 3) ls (.int (mX8_cells mw mt) :: rest))) : W p l e R s m args below meth c H locs cells slots Q (F0 m pc ls (.ref hM :: rest)) := by
  exact vp_callSi (va_Run.run (va_runV (As := []) (rest := rest) fx (tX8_cells l rfl) (cwV 0 fx.2.2.2.2 (tw_V hq qw_49 qw_50 qw_45 qw_51) rfl rfl rfl (by decide +kernel) ⟨hR.1, hR.2.1⟩) ⟨rdP_bl, va_recv hK hP (ci := 8) (q0 := 0) rfl rfl, rdP_ok hP hK⟩ rfl rfl hsz rfl (lv_room hst) hd ⟨hR.2.2.1, hR.2.2.2⟩)) (fun r9 hr9 => by first | (rw [hr9]; exact kk) | (rw [hr9.1]; exact kk))
-- X8_all
def mX8_all (mw : Int32) (mt : Int32) : Int64 :=
  ((jlshl (1 : Int64) (mX8_cells mw mt)) - (1 : Int64))
theorem dX8_all_0 : decode cX8_all 0 = .ok (.lconst 1, 1) := by decide +kernel
theorem dX8_all_1 : decode cX8_all 1 = .ok (.aload_n 0, 1) := by decide +kernel
theorem dX8_all_2 : decode cX8_all 2 = .ok (.invokevirtual 57, 3) := by decide +kernel
theorem dX8_all_5 : decode cX8_all 5 = .ok (.lshl, 1) := by decide +kernel
theorem dX8_all_6 : decode cX8_all 6 = .ok (.lconst 1, 1) := by decide +kernel
theorem dX8_all_7 : decode cX8_all 7 = .ok (.lsub, 1) := by decide +kernel
theorem dX8_all_8 : decode cX8_all 8 = .ok (.lreturn, 1) := by decide +kernel
set_option maxHeartbeats 4000000 in
set_option maxRecDepth 100000 in
theorem bX8_all {r : Int64} (hx : p.tables.exec = Jvm.exec) (hb : c.code = cX8_all) (hml : c.maxLocals = 1) (hown : s.vm.findClass RX8 = some m.cls) (hts : ∀ w ∈ tw, w.before args s = true) (hP : va_P D vwCl (wdM cJ cI hM hM1 hM2 hM3 hM4 hM5 hM6 hM7 hM8 hM9 hM10 hM11 mw mt mrim mjn mhm mpn mbm mgm mpi mst mam mac mro mbe mhi mmi mgr mtr mle) H) (hK : va_K D vwCl [(cI, .int), (cJ, .long)] s) (hR : 1 ≤ R.frames ∧ 20 ≤ R.locals ∧ cells ≤ R.cells ∧ slots ≤ R.slots) (hm : mX8_all mw mt = r) (ls : Array Slot) (hl : lv_has ls 1 [(0, .ref hM)]) (K : ∀ (pc : Nat) (ls : Array Slot), decode cX8_all pc = .ok (.lreturn, 1) → W p l e R s m args below meth c H locs cells slots Q (F0 m pc ls [.long r])) : W p l e R s m args below meth c H locs cells slots Q (F0 m 0 ls []) := by
  unfold mX8_all at hm
  refine lv_lconst (v := (1 : Int64)) hx hb dX8_all_0 (by decide) ?_
  refine lv_aload_n hx hb dX8_all_1 rfl (lv_at hl 0 rfl) ?_
  refine kX8_cells ⟨hx, hb, hml, hown, hts⟩ qw_52 hP hK hl.1 ⟨Nat.le_trans (by decide) hR.1, Nat.le_trans (by decide) hR.2.1, hR.2.2⟩ (Nat.le_of_ble_eq_true rfl) dX8_all_2 ?_
  refine lv_lshl (v := (jlshl (1 : Int64) (mX8_cells mw mt))) hx hb dX8_all_5 rfl ?_
  refine lv_lconst (v := (1 : Int64)) hx hb dX8_all_6 (by decide) ?_
  refine lv_lsub hx hb dX8_all_7 ?_
  subst hm
  exact K 8 ls dX8_all_8
set_option maxHeartbeats 4000000 in
set_option maxRecDepth 100000 in
theorem tX8_all (l : Launch) {D : va_G} {r : Int64} (hm : mX8_all mw mt = r) : Met l yX8_all (.code yX8_all cX8_all 1 (some .long) :: tw) ({ frames := 1, cells := 0, slots := 0, locals := 20 } : Room) (rdP D [.ref hM] (wdM cJ cI hM hM1 hM2 hM3 hM4 hM5 hM6 hM7 hM8 hM9 hM10 hM11 mw mt mrim mjn mhm mpn mbm mgm mpi mst mam mac mro mbe mhi mmi mgr mtr mle) [(cI, .int), (cJ, .long)]) (vp_Sl (fun q => q = r)) 0 0 (fun _ => False) := by
  refine Met.ofW (cc := cX8_all) (maxL := 1) (ret := (some .long)) (by decide) rfl ?_
  intro p e s m args below meth c s₁ B hml hv
  obtain ⟨rfl, hP, hK⟩ := hv
  have hx := B.exec
  have hb := B.bytes
  have hr := B.returns
  have hts : ∀ w ∈ tw, w.before _ s = true := fun w h => atoms_spec (ws := .code yX8_all cX8_all 1 (some .long) :: tw) B.pre w (List.mem_cons_of_mem _ h)
  have hown : s.vm.findClass RX8 = some m.cls := findClass_of_methodNamed B.named
  have hlocks := B.notSynchronized
  have hl := lv_entry ([.ref hM]) (n := 1) (Nat.le_of_ble_eq_true rfl)
  rw [lg_entry_eq]
  generalize (lg_sl ([.ref hM]) ++ List.replicate (1 - (lg_sl ([.ref hM])).length) Slot.unset).toArray = ls at hl ⊢
  refine bX8_all hx hb hml hown hts hP hK ⟨Nat.le_of_ble_eq_true rfl, Nat.le_of_ble_eq_true rfl, Nat.zero_le _, Nat.zero_le _⟩ hm ls hl (fun pc ls hd => ?_)
  exact W.lret hx hb hr (fun t ht hW => ⟨r, rfl, rfl, ht⟩) (fun q h => by cases h) hd
set_option maxHeartbeats 4000000 in
set_option maxRecDepth 100000 in
theorem kX8_all {own : String} {cc : ByteArray} {nL idx pc : Nat} {ls : Array Slot} {rest : List Value} (fx : CallFix p m c cc nL s args tw own) (hq : Cond.methodLink own idx yX8_all ∈ tw) (hP : va_P D vwCl (wdM cJ cI hM hM1 hM2 hM3 hM4 hM5 hM6 hM7 hM8 hM9 hM10 hM11 mw mt mrim mjn mhm mpn mbm mgm mpi mst mam mac mro mbe mhi mmi mgr mtr mle) H) (hK : va_K D vwCl [(cI, .int), (cJ, .long)] s) (hsz : ls.size = nL) (hR : 2 ≤ R.frames ∧ 40 ≤ R.locals ∧ cells ≤ R.cells ∧ slots ≤ R.slots) (hst : (rest.map fun v => v.category).sum ≤ 8) (hd : decode cc pc = .ok (.invokevirtual idx, 3)) (kk : W p l e R s m args below meth c H locs cells slots Q (F0 m (pc + 3) ls (.long (mX8_all mw mt) :: rest))) : W p l e R s m args below meth c H locs cells slots Q (F0 m pc ls (.ref hM :: rest)) := by
  exact vp_callSl (va_Run.run (va_runV (As := []) (rest := rest) fx (tX8_all l rfl) (cwV 0 fx.2.2.2.2 (tw_V hq qw_53 qw_54 qw_45 qw_55) rfl rfl rfl (by decide +kernel) ⟨hR.1, hR.2.1⟩) ⟨rdP_bl, va_recv hK hP (ci := 8) (q0 := 0) rfl rfl, rdP_ok hP hK⟩ rfl rfl hsz rfl (lv_room hst) hd ⟨hR.2.2.1, hR.2.2.2⟩)) (fun r9 hr9 => by first | (rw [hr9]; exact kk) | (rw [hr9.1]; exact kk))
-- X8_isPicture
def mX8_isPicture (a0 : Int32) : Int32 :=
  (mX8_in ((a0).toInt64) (0 : Int64) (4 : Int64))
theorem dX8_isPicture_0 : decode cX8_isPicture 0 = .ok (.iload_n 0, 1) := by decide +kernel
theorem dX8_isPicture_1 : decode cX8_isPicture 1 = .ok (.i2l, 1) := by decide +kernel
theorem dX8_isPicture_2 : decode cX8_isPicture 2 = .ok (.lconst 0, 1) := by decide +kernel
theorem dX8_isPicture_3 : decode cX8_isPicture 3 = .ok (.ldc2_w 61, 3) := by decide +kernel
theorem dX8_isPicture_6 : decode cX8_isPicture 6 = .ok (.invokestatic 63, 3) := by decide +kernel
theorem dX8_isPicture_9 : decode cX8_isPicture 9 = .ok (.ireturn, 1) := by decide +kernel
set_option maxHeartbeats 4000000 in
set_option maxRecDepth 100000 in
theorem bX8_isPicture {a0 : Int32} {r : Int32} (hx : p.tables.exec = Jvm.exec) (hb : c.code = cX8_isPicture) (hml : c.maxLocals = 1) (hown : s.vm.findClass RX8 = some m.cls) (hts : ∀ w ∈ tw, w.before args s = true) (hR : 1 ≤ R.frames ∧ 25 ≤ R.locals ∧ cells ≤ R.cells ∧ slots ≤ R.slots) (hm : mX8_isPicture a0 = r) (ls : Array Slot) (hl : lv_has ls 1 [(0, .int a0)]) (K : ∀ (pc : Nat) (ls : Array Slot), decode cX8_isPicture pc = .ok (.ireturn, 1) → narrow .boolean (.int r) = .int r → W p l e R s m args below meth c H locs cells slots Q (F0 m pc ls [.int r])) : W p l e R s m args below meth c H locs cells slots Q (F0 m 0 ls []) := by
  unfold mX8_isPicture at hm
  refine lv_iload_n hx hb dX8_isPicture_0 rfl (lv_at hl 0 rfl) ?_
  refine lv_i2l (v := ((a0).toInt64)) hx hb dX8_isPicture_1 rfl ?_
  refine lv_lconst (v := (0 : Int64)) hx hb dX8_isPicture_2 (by decide) ?_
  refine lv_ldc2 (v := (4 : Int64)) hx hb hown (hts _ qw_56) dX8_isPicture_3 ?_
  refine kX8_in ⟨hx, hb, hml, hown, hts⟩ qw_57 hl.1 ⟨Nat.le_trans (by decide) hR.1, Nat.le_trans (by decide) hR.2.1, hR.2.2⟩ (Nat.le_of_ble_eq_true rfl) dX8_isPicture_6 ?_
  subst hm
  exact K 9 ls dX8_isPicture_9 (zn_in _ _ _)
set_option maxHeartbeats 4000000 in
set_option maxRecDepth 100000 in
theorem tX8_isPicture (l : Launch) {a0 : Int32} {r : Int32} (hm : mX8_isPicture a0 = r) : Met l yX8_isPicture (.code yX8_isPicture cX8_isPicture 1 (some .boolean) :: tw) ({ frames := 1, cells := 0, slots := 0, locals := 25 } : Room) (va_Pc [.int a0] (fun _ => True)) (vp_Si (fun q => q = r ∧ narrow .boolean (.int q) = .int q)) 0 0 (fun _ => False) := by
  refine Met.ofW (cc := cX8_isPicture) (maxL := 1) (ret := (some .boolean)) (by decide) rfl ?_
  intro p e s m args below meth c s₁ B hml hv
  obtain ⟨rfl, -⟩ := hv
  have hx := B.exec
  have hb := B.bytes
  have hr := B.returns
  have hts : ∀ w ∈ tw, w.before _ s = true := fun w h => atoms_spec (ws := .code yX8_isPicture cX8_isPicture 1 (some .boolean) :: tw) B.pre w (List.mem_cons_of_mem _ h)
  have hown : s.vm.findClass RX8 = some m.cls := findClass_of_methodNamed B.named
  have hlocks := B.notSynchronized
  have hl := lv_entry ([.int a0]) (n := 1) (Nat.le_of_ble_eq_true rfl)
  rw [lg_entry_eq]
  generalize (lg_sl ([.int a0]) ++ List.replicate (1 - (lg_sl ([.int a0])).length) Slot.unset).toArray = ls at hl ⊢
  refine bX8_isPicture hx hb hml hown hts ⟨Nat.le_of_ble_eq_true rfl, Nat.le_of_ble_eq_true rfl, Nat.zero_le _, Nat.zero_le _⟩ hm ls hl (fun pc ls hd hz => ?_)
  exact W.zret hx hb hr hz (fun t ht hW => ⟨r, rfl, ⟨rfl, hz⟩, ht⟩) (fun q h => by cases h) hd
set_option maxHeartbeats 4000000 in
set_option maxRecDepth 100000 in
theorem kX8_isPicture {own : String} {cc : ByteArray} {nL idx pc : Nat} {ls : Array Slot} {rest : List Value} {a0 : Int32} (fx : CallFix p m c cc nL s args tw own) (hq : Cond.methodLink own idx yX8_isPicture ∈ tw) (hsz : ls.size = nL) (hR : 2 ≤ R.frames ∧ 45 ≤ R.locals ∧ cells ≤ R.cells ∧ slots ≤ R.slots) (hst : (rest.map fun v => v.category).sum ≤ 8) (hd : decode cc pc = .ok (.invokestatic idx, 3)) (kk : W p l e R s m args below meth c H locs cells slots Q (F0 m (pc + 3) ls (.int (mX8_isPicture a0) :: rest))) : W p l e R s m args below meth c H locs cells slots Q (F0 m pc ls (.int a0 :: rest)) := by
  exact vp_callSi (va_Run.run (va_runS (As := [.int a0]) (rest := rest) fx (tX8_isPicture l rfl) (va_cwS 1 fx.2.2.2.2 (tw_S2 hq qw_58 qw_45 qw_59) rfl rfl rfl (by decide +kernel) ⟨hR.1, hR.2.1⟩) ⟨fun a U g mk q => q, fun U hU hW => ⟨rfl, trivial⟩⟩ rfl rfl hsz rfl (lv_room hst) hd ⟨hR.2.2.1, hR.2.2.2⟩)) (fun r9 hr9 => by first | (rw [hr9]; exact kk) | (rw [hr9.1]; exact kk))
-- X8_isCell
def mX8_isCell (mw : Int32) (mt : Int32) (a1 : Int32) : Int32 :=
  (mX8_in ((a1).toInt64) (0 : Int64) ((((mX8_cells mw mt) - (1 : Int32))).toInt64))
theorem dX8_isCell_0 : decode cX8_isCell 0 = .ok (.iload_n 1, 1) := by decide +kernel
theorem dX8_isCell_1 : decode cX8_isCell 1 = .ok (.i2l, 1) := by decide +kernel
theorem dX8_isCell_2 : decode cX8_isCell 2 = .ok (.lconst 0, 1) := by decide +kernel
theorem dX8_isCell_3 : decode cX8_isCell 3 = .ok (.aload_n 0, 1) := by decide +kernel
theorem dX8_isCell_4 : decode cX8_isCell 4 = .ok (.invokevirtual 57, 3) := by decide +kernel
theorem dX8_isCell_7 : decode cX8_isCell 7 = .ok (.iconst 1, 1) := by decide +kernel
theorem dX8_isCell_8 : decode cX8_isCell 8 = .ok (.isub, 1) := by decide +kernel
theorem dX8_isCell_9 : decode cX8_isCell 9 = .ok (.i2l, 1) := by decide +kernel
theorem dX8_isCell_10 : decode cX8_isCell 10 = .ok (.invokestatic 63, 3) := by decide +kernel
theorem dX8_isCell_13 : decode cX8_isCell 13 = .ok (.ireturn, 1) := by decide +kernel
set_option maxHeartbeats 4000000 in
set_option maxRecDepth 100000 in
theorem bX8_isCell {a1 : Int32} {r : Int32} (hx : p.tables.exec = Jvm.exec) (hb : c.code = cX8_isCell) (hml : c.maxLocals = 2) (hown : s.vm.findClass RX8 = some m.cls) (hts : ∀ w ∈ tw, w.before args s = true) (hP : va_P D vwCl (wdM cJ cI hM hM1 hM2 hM3 hM4 hM5 hM6 hM7 hM8 hM9 hM10 hM11 mw mt mrim mjn mhm mpn mbm mgm mpi mst mam mac mro mbe mhi mmi mgr mtr mle) H) (hK : va_K D vwCl [(cI, .int), (cJ, .long)] s) (hR : 1 ≤ R.frames ∧ 25 ≤ R.locals ∧ cells ≤ R.cells ∧ slots ≤ R.slots) (hm : mX8_isCell mw mt a1 = r) (ls : Array Slot) (hl : lv_has ls 2 [(0, .ref hM), (1, .int a1)]) (K : ∀ (pc : Nat) (ls : Array Slot), decode cX8_isCell pc = .ok (.ireturn, 1) → narrow .boolean (.int r) = .int r → W p l e R s m args below meth c H locs cells slots Q (F0 m pc ls [.int r])) : W p l e R s m args below meth c H locs cells slots Q (F0 m 0 ls []) := by
  unfold mX8_isCell at hm
  refine lv_iload_n hx hb dX8_isCell_0 rfl (lv_at hl 1 rfl) ?_
  refine lv_i2l (v := ((a1).toInt64)) hx hb dX8_isCell_1 rfl ?_
  refine lv_lconst (v := (0 : Int64)) hx hb dX8_isCell_2 (by decide) ?_
  refine lv_aload_n hx hb dX8_isCell_3 rfl (lv_at hl 0 rfl) ?_
  refine kX8_cells ⟨hx, hb, hml, hown, hts⟩ qw_52 hP hK hl.1 ⟨Nat.le_trans (by decide) hR.1, Nat.le_trans (by decide) hR.2.1, hR.2.2⟩ (Nat.le_of_ble_eq_true rfl) dX8_isCell_4 ?_
  refine lv_iconst (v := (1 : Int32)) hx hb dX8_isCell_7 (by decide) ?_
  refine lv_isub hx hb dX8_isCell_8 ?_
  refine lv_i2l (v := ((((mX8_cells mw mt) - (1 : Int32))).toInt64)) hx hb dX8_isCell_9 rfl ?_
  refine kX8_in ⟨hx, hb, hml, hown, hts⟩ qw_57 hl.1 ⟨Nat.le_trans (by decide) hR.1, Nat.le_trans (by decide) hR.2.1, hR.2.2⟩ (Nat.le_of_ble_eq_true rfl) dX8_isCell_10 ?_
  subst hm
  exact K 13 ls dX8_isCell_13 (zn_in _ _ _)
set_option maxHeartbeats 4000000 in
set_option maxRecDepth 100000 in
theorem tX8_isCell (l : Launch) {D : va_G} {a1 : Int32} {r : Int32} (hm : mX8_isCell mw mt a1 = r) : Met l yX8_isCell (.code yX8_isCell cX8_isCell 2 (some .boolean) :: tw) ({ frames := 1, cells := 0, slots := 0, locals := 25 } : Room) (rdP D [.ref hM, .int a1] (wdM cJ cI hM hM1 hM2 hM3 hM4 hM5 hM6 hM7 hM8 hM9 hM10 hM11 mw mt mrim mjn mhm mpn mbm mgm mpi mst mam mac mro mbe mhi mmi mgr mtr mle) [(cI, .int), (cJ, .long)]) (vp_Si (fun q => q = r ∧ narrow .boolean (.int q) = .int q)) 0 0 (fun _ => False) := by
  refine Met.ofW (cc := cX8_isCell) (maxL := 2) (ret := (some .boolean)) (by decide) rfl ?_
  intro p e s m args below meth c s₁ B hml hv
  obtain ⟨rfl, hP, hK⟩ := hv
  have hx := B.exec
  have hb := B.bytes
  have hr := B.returns
  have hts : ∀ w ∈ tw, w.before _ s = true := fun w h => atoms_spec (ws := .code yX8_isCell cX8_isCell 2 (some .boolean) :: tw) B.pre w (List.mem_cons_of_mem _ h)
  have hown : s.vm.findClass RX8 = some m.cls := findClass_of_methodNamed B.named
  have hlocks := B.notSynchronized
  have hl := lv_entry ([.ref hM, .int a1]) (n := 2) (Nat.le_of_ble_eq_true rfl)
  rw [lg_entry_eq]
  generalize (lg_sl ([.ref hM, .int a1]) ++ List.replicate (2 - (lg_sl ([.ref hM, .int a1])).length) Slot.unset).toArray = ls at hl ⊢
  refine bX8_isCell hx hb hml hown hts hP hK ⟨Nat.le_of_ble_eq_true rfl, Nat.le_of_ble_eq_true rfl, Nat.zero_le _, Nat.zero_le _⟩ hm ls hl (fun pc ls hd hz => ?_)
  exact W.zret hx hb hr hz (fun t ht hW => ⟨r, rfl, ⟨rfl, hz⟩, ht⟩) (fun q h => by cases h) hd
set_option maxHeartbeats 4000000 in
set_option maxRecDepth 100000 in
theorem kX8_isCell {own : String} {cc : ByteArray} {nL idx pc : Nat} {ls : Array Slot} {rest : List Value} {a1 : Int32} (fx : CallFix p m c cc nL s args tw own) (hq : Cond.methodLink own idx yX8_isCell ∈ tw) (hP : va_P D vwCl (wdM cJ cI hM hM1 hM2 hM3 hM4 hM5 hM6 hM7 hM8 hM9 hM10 hM11 mw mt mrim mjn mhm mpn mbm mgm mpi mst mam mac mro mbe mhi mmi mgr mtr mle) H) (hK : va_K D vwCl [(cI, .int), (cJ, .long)] s) (hsz : ls.size = nL) (hR : 2 ≤ R.frames ∧ 46 ≤ R.locals ∧ cells ≤ R.cells ∧ slots ≤ R.slots) (hst : (rest.map fun v => v.category).sum ≤ 8) (hd : decode cc pc = .ok (.invokevirtual idx, 3)) (kk : W p l e R s m args below meth c H locs cells slots Q (F0 m (pc + 3) ls (.int (mX8_isCell mw mt a1) :: rest))) : W p l e R s m args below meth c H locs cells slots Q (F0 m pc ls (.int a1 :: .ref hM :: rest)) := by
  exact vp_callSi (va_Run.run (va_runV (As := [.int a1]) (rest := rest) fx (tX8_isCell l rfl) (cwV 1 fx.2.2.2.2 (tw_V hq qw_60 qw_61 qw_45 qw_62) rfl rfl rfl (by decide +kernel) ⟨hR.1, hR.2.1⟩) ⟨rdP_bl, va_recv hK hP (ci := 8) (q0 := 0) rfl rfl, rdP_ok hP hK⟩ rfl rfl hsz rfl (lv_room hst) hd ⟨hR.2.2.1, hR.2.2.2⟩)) (fun r9 hr9 => by first | (rw [hr9]; exact kk) | (rw [hr9.1]; exact kk))
-- X8_has
def mX8_has (a0 : Int64) (a2 : Int32) : Int32 :=
  (if ((jlshr a0 a2) &&& (1 : Int64)) = (1 : Int64) then (1 : Int32) else (0 : Int32))
theorem dX8_has_0 : decode cX8_has 0 = .ok (.lload_n 0, 1) := by decide +kernel
theorem dX8_has_1 : decode cX8_has 1 = .ok (.iload_n 2, 1) := by decide +kernel
theorem dX8_has_2 : decode cX8_has 2 = .ok (.lshr, 1) := by decide +kernel
theorem dX8_has_3 : decode cX8_has 3 = .ok (.lconst 1, 1) := by decide +kernel
theorem dX8_has_4 : decode cX8_has 4 = .ok (.land, 1) := by decide +kernel
theorem dX8_has_5 : decode cX8_has 5 = .ok (.lconst 1, 1) := by decide +kernel
theorem dX8_has_6 : decode cX8_has 6 = .ok (.lcmp, 1) := by decide +kernel
theorem dX8_has_7 : decode cX8_has 7 = .ok (.ifCond .ne 7, 3) := by decide +kernel
theorem dX8_has_10 : decode cX8_has 10 = .ok (.iconst 1, 1) := by decide +kernel
theorem dX8_has_11 : decode cX8_has 11 = .ok (.goto 4, 3) := by decide +kernel
theorem dX8_has_14 : decode cX8_has 14 = .ok (.iconst 0, 1) := by decide +kernel
theorem dX8_has_15 : decode cX8_has 15 = .ok (.ireturn, 1) := by decide +kernel
set_option maxHeartbeats 4000000 in
set_option maxRecDepth 100000 in
theorem bX8_has {a0 : Int64} {a2 : Int32} {r : Int32} (hx : p.tables.exec = Jvm.exec) (hb : c.code = cX8_has) (hml : c.maxLocals = 3) (hown : s.vm.findClass RX8 = some m.cls) (hts : ∀ w ∈ tw, w.before args s = true) (hR : 0 ≤ R.frames ∧ 0 ≤ R.locals ∧ cells ≤ R.cells ∧ slots ≤ R.slots) (hm : mX8_has a0 a2 = r) (ls : Array Slot) (hl : lv_has ls 3 [(0, .long a0), (2, .int a2)]) (K : ∀ (pc : Nat) (ls : Array Slot), decode cX8_has pc = .ok (.ireturn, 1) → narrow .boolean (.int r) = .int r → W p l e R s m args below meth c H locs cells slots Q (F0 m pc ls [.int r])) : W p l e R s m args below meth c H locs cells slots Q (F0 m 0 ls []) := by
  unfold mX8_has at hm
  refine lv_lload_n hx hb dX8_has_0 rfl (lv_at hl 0 rfl) ?_
  refine lv_iload_n hx hb dX8_has_1 rfl (lv_at hl 1 rfl) ?_
  refine lv_lshr (v := (jlshr a0 a2)) hx hb dX8_has_2 rfl ?_
  refine lv_lconst (v := (1 : Int64)) hx hb dX8_has_3 (by decide) ?_
  refine lv_land hx hb dX8_has_4 ?_
  refine lv_lconst (v := (1 : Int64)) hx hb dX8_has_5 (by decide) ?_
  refine W.lcmp hx hb dX8_has_6 ?_
  refine lv_if_ne (tgt := 14) hx hb dX8_has_7 (by decide) (fun c1 => ?_) (fun c1 => ?_)
  · have c1 := fun h9 => c1 ((lg_cmp_eq ((jlshr a0 a2) &&& (1 : Int64)) (1 : Int64)).mpr h9)
    rw [if_neg c1] at hm
    refine lv_iconst (v := (0 : Int32)) hx hb dX8_has_14 (by decide) ?_
    subst hm
    exact K 15 ls dX8_has_15 rfl
  · have c1 := (lg_cmp_eq ((jlshr a0 a2) &&& (1 : Int64)) (1 : Int64)).mp c1
    rw [if_pos c1] at hm
    refine lv_iconst (v := (1 : Int32)) hx hb dX8_has_10 (by decide) ?_
    refine lv_goto (tgt := 15) hx hb dX8_has_11 (by decide) ?_
    subst hm
    exact K 15 ls dX8_has_15 rfl
set_option maxHeartbeats 4000000 in
set_option maxRecDepth 100000 in
theorem tX8_has (l : Launch) {a0 : Int64} {a2 : Int32} {r : Int32} (hm : mX8_has a0 a2 = r) : Met l yX8_has (.code yX8_has cX8_has 3 (some .boolean) :: tw) ({ frames := 0, cells := 0, slots := 0, locals := 0 } : Room) (va_Pc [.long a0, .int a2] (fun _ => True)) (vp_Si (fun q => q = r ∧ narrow .boolean (.int q) = .int q)) 0 0 (fun _ => False) := by
  refine Met.ofW (cc := cX8_has) (maxL := 3) (ret := (some .boolean)) (by decide) rfl ?_
  intro p e s m args below meth c s₁ B hml hv
  obtain ⟨rfl, -⟩ := hv
  have hx := B.exec
  have hb := B.bytes
  have hr := B.returns
  have hts : ∀ w ∈ tw, w.before _ s = true := fun w h => atoms_spec (ws := .code yX8_has cX8_has 3 (some .boolean) :: tw) B.pre w (List.mem_cons_of_mem _ h)
  have hown : s.vm.findClass RX8 = some m.cls := findClass_of_methodNamed B.named
  have hlocks := B.notSynchronized
  have hl := lv_entry ([.long a0, .int a2]) (n := 3) (Nat.le_of_ble_eq_true rfl)
  rw [lg_entry_eq]
  generalize (lg_sl ([.long a0, .int a2]) ++ List.replicate (3 - (lg_sl ([.long a0, .int a2])).length) Slot.unset).toArray = ls at hl ⊢
  refine bX8_has hx hb hml hown hts ⟨Nat.le_of_ble_eq_true rfl, Nat.le_of_ble_eq_true rfl, Nat.zero_le _, Nat.zero_le _⟩ hm ls hl (fun pc ls hd hz => ?_)
  exact W.zret hx hb hr hz (fun t ht hW => ⟨r, rfl, ⟨rfl, hz⟩, ht⟩) (fun q h => by cases h) hd
set_option maxHeartbeats 4000000 in
set_option maxRecDepth 100000 in
theorem kX8_has {own : String} {cc : ByteArray} {nL idx pc : Nat} {ls : Array Slot} {rest : List Value} {a0 : Int64} {a2 : Int32} (fx : CallFix p m c cc nL s args tw own) (hq : Cond.methodLink own idx yX8_has ∈ tw) (hsz : ls.size = nL) (hR : 1 ≤ R.frames ∧ 22 ≤ R.locals ∧ cells ≤ R.cells ∧ slots ≤ R.slots) (hst : (rest.map fun v => v.category).sum ≤ 8) (hd : decode cc pc = .ok (.invokestatic idx, 3)) (kk : W p l e R s m args below meth c H locs cells slots Q (F0 m (pc + 3) ls (.int (mX8_has a0 a2) :: rest))) : W p l e R s m args below meth c H locs cells slots Q (F0 m pc ls (.int a2 :: .long a0 :: rest)) := by
  exact vp_callSi (va_Run.run (va_runS (As := [.long a0, .int a2]) (rest := rest) fx (tX8_has l rfl) (va_cwS 2 fx.2.2.2.2 (tw_S2 hq qw_63 qw_45 qw_64) rfl rfl rfl (by decide +kernel) ⟨hR.1, hR.2.1⟩) ⟨fun a U g mk q => q, fun U hU hW => ⟨rfl, trivial⟩⟩ rfl rfl hsz rfl (lv_room hst) hd ⟨hR.2.2.1, hR.2.2.2⟩)) (fun r9 hr9 => by first | (rw [hr9]; exact kk) | (rw [hr9.1]; exact kk))
-- X8_many
def mX8_many_L4 (n : Nat) : Nat → (Int32) → (Int64) → Option ((Int32))
  | 0, _, _ => none
  | k + 1, v2, v3 => (if v3 = (0 : Int64) then some (v2) else mX8_many_L4 n k (v2 + (1 : Int32)) (v3 &&& (v3 - (1 : Int64))))
def mX8_many (n : Nat) (a0 : Int64) : Option Int32 :=
  jb (mX8_many_L4 n n (0 : Int32) a0) (fun (y3 : Int32) => (some y3))
theorem dX8_many_0 : decode cX8_many 0 = .ok (.iconst 0, 1) := by decide +kernel
theorem dX8_many_1 : decode cX8_many 1 = .ok (.istore_n 2, 1) := by decide +kernel
theorem dX8_many_2 : decode cX8_many 2 = .ok (.lload_n 0, 1) := by decide +kernel
theorem dX8_many_3 : decode cX8_many 3 = .ok (.lstore_n 3, 1) := by decide +kernel
theorem dX8_many_4 : decode cX8_many 4 = .ok (.lload_n 3, 1) := by decide +kernel
theorem dX8_many_5 : decode cX8_many 5 = .ok (.lconst 0, 1) := by decide +kernel
theorem dX8_many_6 : decode cX8_many 6 = .ok (.lcmp, 1) := by decide +kernel
theorem dX8_many_7 : decode cX8_many 7 = .ok (.ifCond .eq 15, 3) := by decide +kernel
theorem dX8_many_10 : decode cX8_many 10 = .ok (.iinc 2 1, 3) := by decide +kernel
theorem dX8_many_13 : decode cX8_many 13 = .ok (.lload_n 3, 1) := by decide +kernel
theorem dX8_many_14 : decode cX8_many 14 = .ok (.lload_n 3, 1) := by decide +kernel
theorem dX8_many_15 : decode cX8_many 15 = .ok (.lconst 1, 1) := by decide +kernel
theorem dX8_many_16 : decode cX8_many 16 = .ok (.lsub, 1) := by decide +kernel
theorem dX8_many_17 : decode cX8_many 17 = .ok (.land, 1) := by decide +kernel
theorem dX8_many_18 : decode cX8_many 18 = .ok (.lstore_n 3, 1) := by decide +kernel
theorem dX8_many_19 : decode cX8_many 19 = .ok (.goto (-15), 3) := by decide +kernel
theorem dX8_many_22 : decode cX8_many 22 = .ok (.iload_n 2, 1) := by decide +kernel
theorem dX8_many_23 : decode cX8_many 23 = .ok (.ireturn, 1) := by decide +kernel
set_option maxHeartbeats 4000000 in
set_option maxRecDepth 100000 in
theorem wX8_many_L4 {n : Nat} (hx : p.tables.exec = Jvm.exec) (hb : c.code = cX8_many) (hml : c.maxLocals = 5) (hown : s.vm.findClass RX8 = some m.cls) (hts : ∀ w ∈ tw, w.before args s = true) (hR : 0 ≤ R.frames ∧ 0 ≤ R.locals ∧ cells ≤ R.cells ∧ slots ≤ R.slots) : ∀ (k : Nat) (v2 : Int32) (v3 : Int64) (x2 : Int32), mX8_many_L4 n k v2 v3 = some (x2) → ∀ ls : Array Slot, lv_has ls 5 [(2, .int v2), (3, .long v3)] → (∀ ls : Array Slot, lv_has ls 5 [(2, .int x2)] → W p l e R s m args below meth c H locs cells slots Q (F0 m 22 ls [])) → W p l e R s m args below meth c H locs cells slots Q (F0 m 4 ls []) := by
  intro k
  induction k with
  | zero => intro v2 v3 x2 hm; rw [mX8_many_L4] at hm; cases hm
  | succ k ih =>
    intro v2 v3 x2 hm ls hl K0
    rw [mX8_many_L4] at hm
    refine lv_lload_n hx hb dX8_many_4 rfl (lv_at hl 1 rfl) ?_
    refine lv_lconst (v := (0 : Int64)) hx hb dX8_many_5 (by decide) ?_
    refine W.lcmp hx hb dX8_many_6 ?_
    refine lv_if_eq (tgt := 22) hx hb dX8_many_7 (by decide) (fun c2 => ?_) (fun c2 => ?_)
    · have c2 := (lg_cmp_eq v3 (0 : Int64)).mp c2
      rw [if_pos c2] at hm
      have hm := Option.some.inj hm
      have e9 : x2 = v2 := (congrArg (fun q => q) hm).symm
      rw [e9] at K0
      exact K0 ls (lv_sub hl [0] rfl)
    · have c2 := fun h9 => c2 ((lg_cmp_eq v3 (0 : Int64)).mpr h9)
      rw [if_neg c2] at hm
      refine lv_iinc (v := (v2 + (1 : Int32))) (lv' := [(2, .int (v2 + (1 : Int32))), (3, .long v3)]) hx hb dX8_many_10 hl (k := 0) rfl (by rfl) (by decide) rfl (fun ls hl => ?_)
      refine lv_lload_n hx hb dX8_many_13 rfl (lv_at hl 1 rfl) ?_
      refine lv_lload_n hx hb dX8_many_14 rfl (lv_at hl 1 rfl) ?_
      refine lv_lconst (v := (1 : Int64)) hx hb dX8_many_15 (by decide) ?_
      refine lv_lsub hx hb dX8_many_16 ?_
      refine lv_land hx hb dX8_many_17 ?_
      refine lv_lstore_n (lv' := [(3, .long (v3 &&& (v3 - (1 : Int64)))), (2, .int (v2 + (1 : Int32)))]) hx hb dX8_many_18 rfl hl (by decide) rfl (fun ls hl => ?_)
      refine lv_goto (tgt := 4) hx hb dX8_many_19 (by decide) ?_
      exact ih _ _ _ hm ls (lv_sub hl [1, 0] rfl) K0
set_option maxHeartbeats 4000000 in
set_option maxRecDepth 100000 in
theorem bX8_many {n : Nat} {a0 : Int64} {r : Int32} (hx : p.tables.exec = Jvm.exec) (hb : c.code = cX8_many) (hml : c.maxLocals = 5) (hown : s.vm.findClass RX8 = some m.cls) (hts : ∀ w ∈ tw, w.before args s = true) (hR : 0 ≤ R.frames ∧ 0 ≤ R.locals ∧ cells ≤ R.cells ∧ slots ≤ R.slots) (hm : mX8_many n a0 = some r) (ls : Array Slot) (hl : lv_has ls 5 [(0, .long a0)]) (K : ∀ (pc : Nat) (ls : Array Slot), decode cX8_many pc = .ok (.ireturn, 1) → W p l e R s m args below meth c H locs cells slots Q (F0 m pc ls [.int r])) : W p l e R s m args below meth c H locs cells slots Q (F0 m 0 ls []) := by
  unfold mX8_many at hm
  refine lv_iconst (v := (0 : Int32)) hx hb dX8_many_0 (by decide) ?_
  refine lv_istore_n (lv' := [(2, .int (0 : Int32)), (0, .long a0)]) hx hb dX8_many_1 rfl hl (by decide) rfl (fun ls hl => ?_)
  refine lv_lload_n hx hb dX8_many_2 rfl (lv_at hl 1 rfl) ?_
  refine lv_lstore_n (lv' := [(3, .long a0), (2, .int (0 : Int32)), (0, .long a0)]) hx hb dX8_many_3 rfl hl (by decide) rfl (fun ls hl => ?_)
  obtain ⟨y3, h4, hm⟩ := jb_out hm
  refine wX8_many_L4 hx hb hml hown hts hR n _ _ _  h4 ls (lv_sub hl [1, 0] rfl) (fun ls hl => ?_)
  refine lv_iload_n hx hb dX8_many_22 rfl (lv_at hl 0 rfl) ?_
  have hm := Option.some.inj hm
  subst hm
  exact K 23 ls dX8_many_23
set_option maxHeartbeats 4000000 in
set_option maxRecDepth 100000 in
theorem tX8_many (l : Launch) {n : Nat} {a0 : Int64} {r : Int32} (hm : mX8_many n a0 = some r) : Met l yX8_many (.code yX8_many cX8_many 5 (some .int) :: tw) ({ frames := 0, cells := 0, slots := 0, locals := 0 } : Room) (va_Pc [.long a0] (fun _ => True)) (vp_Si (fun q => q = r)) 0 0 (fun _ => False) := by
  refine Met.ofW (cc := cX8_many) (maxL := 5) (ret := (some .int)) (by decide) rfl ?_
  intro p e s m args below meth c s₁ B hml hv
  obtain ⟨rfl, -⟩ := hv
  have hx := B.exec
  have hb := B.bytes
  have hr := B.returns
  have hts : ∀ w ∈ tw, w.before _ s = true := fun w h => atoms_spec (ws := .code yX8_many cX8_many 5 (some .int) :: tw) B.pre w (List.mem_cons_of_mem _ h)
  have hown : s.vm.findClass RX8 = some m.cls := findClass_of_methodNamed B.named
  have hlocks := B.notSynchronized
  have hl := lv_entry ([.long a0]) (n := 5) (Nat.le_of_ble_eq_true rfl)
  rw [lg_entry_eq]
  generalize (lg_sl ([.long a0]) ++ List.replicate (5 - (lg_sl ([.long a0])).length) Slot.unset).toArray = ls at hl ⊢
  refine bX8_many hx hb hml hown hts ⟨Nat.le_of_ble_eq_true rfl, Nat.le_of_ble_eq_true rfl, Nat.zero_le _, Nat.zero_le _⟩ hm ls hl (fun pc ls hd => ?_)
  exact W.iret hx hb hr (fun t ht hW => ⟨r, rfl, rfl, ht⟩) (fun q h => by cases h) hd
set_option maxHeartbeats 4000000 in
set_option maxRecDepth 100000 in
theorem kX8_many {own : String} {cc : ByteArray} {nL idx pc : Nat} {ls : Array Slot} {rest : List Value} {n : Nat} {a0 : Int64} {r : Int32} (fx : CallFix p m c cc nL s args tw own) (hq : Cond.methodLink own idx yX8_many ∈ tw) (hm : mX8_many n a0 = some r) (hsz : ls.size = nL) (hR : 1 ≤ R.frames ∧ 24 ≤ R.locals ∧ cells ≤ R.cells ∧ slots ≤ R.slots) (hst : (rest.map fun v => v.category).sum ≤ 8) (hd : decode cc pc = .ok (.invokestatic idx, 3)) (kk : W p l e R s m args below meth c H locs cells slots Q (F0 m (pc + 3) ls (.int r :: rest))) : W p l e R s m args below meth c H locs cells slots Q (F0 m pc ls (.long a0 :: rest)) := by
  exact vp_callSi (va_Run.run (va_runS (As := [.long a0]) (rest := rest) fx (tX8_many l hm) (va_cwS 1 fx.2.2.2.2 (tw_S2 hq qw_65 qw_45 qw_66) rfl rfl rfl (by decide +kernel) ⟨hR.1, hR.2.1⟩) ⟨fun a U g mk q => q, fun U hU hW => ⟨rfl, trivial⟩⟩ rfl rfl hsz rfl (lv_room hst) hd ⟨hR.2.2.1, hR.2.2.2⟩)) (fun r9 hr9 => by first | (rw [hr9]; exact kk) | (rw [hr9.1]; exact kk))
-- X8_boxOf
def mX8_boxOf_L5 (n : Nat) (v2 : Int32) (mw : Int32) (v1 : Int32) : Nat → (Int64) → (Int32) → Option ((Int64))
  | 0, _, _ => none
  | k + 1, v3, v5 => (if v2 < v5 then some (v3) else gd (¬ mw = 0) (gd (¬ mw = 0) (gd (¬ mw = 0) (jl (if (mX8_in (((jrem v5 mw)).toInt64) (((jrem v1 mw)).toInt64) (((jrem v2 mw)).toInt64)) = 0 then (0 : Int64) else (jlshl (1 : Int64) v5)) (fun j7 => mX8_boxOf_L5 n v2 mw v1 k (v3 ||| j7) (v5 + (1 : Int32)))))))
def mX8_boxOf (n : Nat) (mw : Int32) (a1 : Int32) (a2 : Int32) : Option Int64 :=
  jb (mX8_boxOf_L5 n a2 mw a1 n (0 : Int64) a1) (fun (y11 : Int64) => (some y11))
theorem dX8_boxOf_0 : decode cX8_boxOf 0 = .ok (.lconst 0, 1) := by decide +kernel
theorem dX8_boxOf_1 : decode cX8_boxOf 1 = .ok (.lstore_n 3, 1) := by decide +kernel
theorem dX8_boxOf_2 : decode cX8_boxOf 2 = .ok (.iload_n 1, 1) := by decide +kernel
theorem dX8_boxOf_3 : decode cX8_boxOf 3 = .ok (.istore 5, 2) := by decide +kernel
theorem dX8_boxOf_5 : decode cX8_boxOf 5 = .ok (.iload 5, 2) := by decide +kernel
theorem dX8_boxOf_7 : decode cX8_boxOf 7 = .ok (.iload_n 2, 1) := by decide +kernel
theorem dX8_boxOf_8 : decode cX8_boxOf 8 = .ok (.if_icmp .gt 48, 3) := by decide +kernel
theorem dX8_boxOf_11 : decode cX8_boxOf 11 = .ok (.lload_n 3, 1) := by decide +kernel
theorem dX8_boxOf_12 : decode cX8_boxOf 12 = .ok (.iload 5, 2) := by decide +kernel
theorem dX8_boxOf_14 : decode cX8_boxOf 14 = .ok (.aload_n 0, 1) := by decide +kernel
theorem dX8_boxOf_15 : decode cX8_boxOf 15 = .ok (.getfield 7, 3) := by decide +kernel
theorem dX8_boxOf_18 : decode cX8_boxOf 18 = .ok (.irem, 1) := by decide +kernel
theorem dX8_boxOf_19 : decode cX8_boxOf 19 = .ok (.i2l, 1) := by decide +kernel
theorem dX8_boxOf_20 : decode cX8_boxOf 20 = .ok (.iload_n 1, 1) := by decide +kernel
theorem dX8_boxOf_21 : decode cX8_boxOf 21 = .ok (.aload_n 0, 1) := by decide +kernel
theorem dX8_boxOf_22 : decode cX8_boxOf 22 = .ok (.getfield 7, 3) := by decide +kernel
theorem dX8_boxOf_25 : decode cX8_boxOf 25 = .ok (.irem, 1) := by decide +kernel
theorem dX8_boxOf_26 : decode cX8_boxOf 26 = .ok (.i2l, 1) := by decide +kernel
theorem dX8_boxOf_27 : decode cX8_boxOf 27 = .ok (.iload_n 2, 1) := by decide +kernel
theorem dX8_boxOf_28 : decode cX8_boxOf 28 = .ok (.aload_n 0, 1) := by decide +kernel
theorem dX8_boxOf_29 : decode cX8_boxOf 29 = .ok (.getfield 7, 3) := by decide +kernel
theorem dX8_boxOf_32 : decode cX8_boxOf 32 = .ok (.irem, 1) := by decide +kernel
theorem dX8_boxOf_33 : decode cX8_boxOf 33 = .ok (.i2l, 1) := by decide +kernel
theorem dX8_boxOf_34 : decode cX8_boxOf 34 = .ok (.invokestatic 63, 3) := by decide +kernel
theorem dX8_boxOf_37 : decode cX8_boxOf 37 = .ok (.ifCond .eq 10, 3) := by decide +kernel
theorem dX8_boxOf_40 : decode cX8_boxOf 40 = .ok (.lconst 1, 1) := by decide +kernel
theorem dX8_boxOf_41 : decode cX8_boxOf 41 = .ok (.iload 5, 2) := by decide +kernel
theorem dX8_boxOf_43 : decode cX8_boxOf 43 = .ok (.lshl, 1) := by decide +kernel
theorem dX8_boxOf_44 : decode cX8_boxOf 44 = .ok (.goto 4, 3) := by decide +kernel
theorem dX8_boxOf_47 : decode cX8_boxOf 47 = .ok (.lconst 0, 1) := by decide +kernel
theorem dX8_boxOf_48 : decode cX8_boxOf 48 = .ok (.lor, 1) := by decide +kernel
theorem dX8_boxOf_49 : decode cX8_boxOf 49 = .ok (.lstore_n 3, 1) := by decide +kernel
theorem dX8_boxOf_50 : decode cX8_boxOf 50 = .ok (.iinc 5 1, 3) := by decide +kernel
theorem dX8_boxOf_53 : decode cX8_boxOf 53 = .ok (.goto (-48), 3) := by decide +kernel
theorem dX8_boxOf_56 : decode cX8_boxOf 56 = .ok (.lload_n 3, 1) := by decide +kernel
theorem dX8_boxOf_57 : decode cX8_boxOf 57 = .ok (.lreturn, 1) := by decide +kernel
set_option maxHeartbeats 4000000 in
set_option maxRecDepth 100000 in
theorem wX8_boxOf_L5 {n : Nat} {v1 : Int32} {v2 : Int32} (hx : p.tables.exec = Jvm.exec) (hb : c.code = cX8_boxOf) (hml : c.maxLocals = 6) (hown : s.vm.findClass RX8 = some m.cls) (hts : ∀ w ∈ tw, w.before args s = true) (hP : va_P D vwCl (wdM cJ cI hM hM1 hM2 hM3 hM4 hM5 hM6 hM7 hM8 hM9 hM10 hM11 mw mt mrim mjn mhm mpn mbm mgm mpi mst mam mac mro mbe mhi mmi mgr mtr mle) H) (hK : va_K D vwCl [(cI, .int), (cJ, .long)] s) (hR : 1 ≤ R.frames ∧ 25 ≤ R.locals ∧ cells ≤ R.cells ∧ slots ≤ R.slots) : ∀ (k : Nat) (v3 : Int64) (v5 : Int32) (x3 : Int64), mX8_boxOf_L5 n v2 mw v1 k v3 v5 = some (x3) → ∀ ls : Array Slot, lv_has ls 6 [(0, .ref hM), (1, .int v1), (2, .int v2), (3, .long v3), (5, .int v5)] → (∀ ls : Array Slot, lv_has ls 6 [(3, .long x3)] → W p l e R s m args below meth c H locs cells slots Q (F0 m 56 ls [])) → W p l e R s m args below meth c H locs cells slots Q (F0 m 5 ls []) := by
  intro k
  induction k with
  | zero => intro v3 v5 x3 hm; rw [mX8_boxOf_L5] at hm; cases hm
  | succ k ih =>
    intro v3 v5 x3 hm ls hl K0
    rw [mX8_boxOf_L5] at hm
    refine lv_iload hx hb dX8_boxOf_5 (lv_at hl 4 rfl) ?_
    refine lv_iload_n hx hb dX8_boxOf_7 rfl (lv_at hl 2 rfl) ?_
    refine lv_icmp_gt (tgt := 56) hx hb dX8_boxOf_8 (by decide) (fun c2 => ?_) (fun c2 => ?_)
    · rw [if_pos c2] at hm
      have hm := Option.some.inj hm
      have e9 : x3 = v3 := (congrArg (fun q => q) hm).symm
      rw [e9] at K0
      exact K0 ls (lv_sub hl [3] rfl)
    · rw [if_neg c2] at hm
      refine lv_lload_n hx hb dX8_boxOf_11 rfl (lv_at hl 3 rfl) ?_
      refine lv_iload hx hb dX8_boxOf_12 (lv_at hl 4 rfl) ?_
      refine lv_aload_n hx hb dX8_boxOf_14 rfl (lv_at hl 0 rfl) ?_
      refine va_get (D := D) (ci := 8) (v := .int mw) (C := RX8) (T := TX8) (N := 19) hx hb hts tnX8 hown hK hP 0 rfl rfl 0 (by decide) (hts _ qw_47) (fun _ h9 => h9) rfl dX8_boxOf_15 ?_
      obtain ⟨g3, hm⟩ := gd_out hm
      refine lv_irem hx hb dX8_boxOf_18 g3 ?_
      refine lv_i2l (v := (((jrem v5 mw)).toInt64)) hx hb dX8_boxOf_19 rfl ?_
      refine lv_iload_n hx hb dX8_boxOf_20 rfl (lv_at hl 1 rfl) ?_
      refine lv_aload_n hx hb dX8_boxOf_21 rfl (lv_at hl 0 rfl) ?_
      refine va_get (D := D) (ci := 8) (v := .int mw) (C := RX8) (T := TX8) (N := 19) hx hb hts tnX8 hown hK hP 0 rfl rfl 0 (by decide) (hts _ qw_47) (fun _ h9 => h9) rfl dX8_boxOf_22 ?_
      obtain ⟨g4, hm⟩ := gd_out hm
      refine lv_irem hx hb dX8_boxOf_25 g4 ?_
      refine lv_i2l (v := (((jrem v1 mw)).toInt64)) hx hb dX8_boxOf_26 rfl ?_
      refine lv_iload_n hx hb dX8_boxOf_27 rfl (lv_at hl 2 rfl) ?_
      refine lv_aload_n hx hb dX8_boxOf_28 rfl (lv_at hl 0 rfl) ?_
      refine va_get (D := D) (ci := 8) (v := .int mw) (C := RX8) (T := TX8) (N := 19) hx hb hts tnX8 hown hK hP 0 rfl rfl 0 (by decide) (hts _ qw_47) (fun _ h9 => h9) rfl dX8_boxOf_29 ?_
      obtain ⟨g5, hm⟩ := gd_out hm
      refine lv_irem hx hb dX8_boxOf_32 g5 ?_
      refine lv_i2l (v := (((jrem v2 mw)).toInt64)) hx hb dX8_boxOf_33 rfl ?_
      refine kX8_in ⟨hx, hb, hml, hown, hts⟩ qw_57 hl.1 ⟨Nat.le_trans (by decide) hR.1, Nat.le_trans (by decide) hR.2.1, hR.2.2⟩ (Nat.le_of_ble_eq_true rfl) dX8_boxOf_34 ?_
      obtain ⟨j7, hi8, hm⟩ := jl_out hm
      have key9 : ∀ (ls : Array Slot), lv_has ls 6 [(0, .ref hM), (1, .int v1), (2, .int v2), (5, .int v5)] → W p l e R s m args below meth c H locs cells slots Q (F0 m 48 ls [.long j7, .long v3]) := by
        intro ls hl
        refine lv_lor hx hb dX8_boxOf_48 ?_
        refine lv_lstore_n (lv' := [(3, .long (v3 ||| j7)), (0, .ref hM), (1, .int v1), (2, .int v2), (5, .int v5)]) hx hb dX8_boxOf_49 rfl hl (by decide) rfl (fun ls hl => ?_)
        refine lv_iinc (v := (v5 + (1 : Int32))) (lv' := [(5, .int (v5 + (1 : Int32))), (3, .long (v3 ||| j7)), (0, .ref hM), (1, .int v1), (2, .int v2)]) hx hb dX8_boxOf_50 hl (k := 4) rfl (by rfl) (by decide) rfl (fun ls hl => ?_)
        refine lv_goto (tgt := 5) hx hb dX8_boxOf_53 (by decide) ?_
        exact ih _ _ _ hm ls (lv_sub hl [2, 3, 4, 1, 0] rfl) K0
      refine lv_if_eq (tgt := 47) hx hb dX8_boxOf_37 (by decide) (fun c10 => ?_) (fun c10 => ?_)
      · rw [if_pos c10] at hi8
        refine lv_lconst (v := (0 : Int64)) hx hb dX8_boxOf_47 (by decide) ?_
        rw [hi8] at key9
        exact key9 ls (lv_sub hl [0, 1, 2, 4] rfl)
      · rw [if_neg c10] at hi8
        refine lv_lconst (v := (1 : Int64)) hx hb dX8_boxOf_40 (by decide) ?_
        refine lv_iload hx hb dX8_boxOf_41 (lv_at hl 4 rfl) ?_
        refine lv_lshl (v := (jlshl (1 : Int64) v5)) hx hb dX8_boxOf_43 rfl ?_
        refine lv_goto (tgt := 48) hx hb dX8_boxOf_44 (by decide) ?_
        rw [hi8] at key9
        exact key9 ls (lv_sub hl [0, 1, 2, 4] rfl)
set_option maxHeartbeats 4000000 in
set_option maxRecDepth 100000 in
theorem bX8_boxOf {n : Nat} {a1 : Int32} {a2 : Int32} {r : Int64} (hx : p.tables.exec = Jvm.exec) (hb : c.code = cX8_boxOf) (hml : c.maxLocals = 6) (hown : s.vm.findClass RX8 = some m.cls) (hts : ∀ w ∈ tw, w.before args s = true) (hP : va_P D vwCl (wdM cJ cI hM hM1 hM2 hM3 hM4 hM5 hM6 hM7 hM8 hM9 hM10 hM11 mw mt mrim mjn mhm mpn mbm mgm mpi mst mam mac mro mbe mhi mmi mgr mtr mle) H) (hK : va_K D vwCl [(cI, .int), (cJ, .long)] s) (hR : 1 ≤ R.frames ∧ 25 ≤ R.locals ∧ cells ≤ R.cells ∧ slots ≤ R.slots) (hm : mX8_boxOf n mw a1 a2 = some r) (ls : Array Slot) (hl : lv_has ls 6 [(0, .ref hM), (1, .int a1), (2, .int a2)]) (K : ∀ (pc : Nat) (ls : Array Slot), decode cX8_boxOf pc = .ok (.lreturn, 1) → W p l e R s m args below meth c H locs cells slots Q (F0 m pc ls [.long r])) : W p l e R s m args below meth c H locs cells slots Q (F0 m 0 ls []) := by
  unfold mX8_boxOf at hm
  refine lv_lconst (v := (0 : Int64)) hx hb dX8_boxOf_0 (by decide) ?_
  refine lv_lstore_n (lv' := [(3, .long (0 : Int64)), (0, .ref hM), (1, .int a1), (2, .int a2)]) hx hb dX8_boxOf_1 rfl hl (by decide) rfl (fun ls hl => ?_)
  refine lv_iload_n hx hb dX8_boxOf_2 rfl (lv_at hl 2 rfl) ?_
  refine lv_istore (lv' := [(5, .int a1), (3, .long (0 : Int64)), (0, .ref hM), (1, .int a1), (2, .int a2)]) hx hb dX8_boxOf_3 hl (by decide) rfl (fun ls hl => ?_)
  obtain ⟨y11, h12, hm⟩ := jb_out hm
  refine wX8_boxOf_L5 hx hb hml hown hts hP hK hR n _ _ _  h12 ls (lv_sub hl [2, 3, 4, 1, 0] rfl) (fun ls hl => ?_)
  refine lv_lload_n hx hb dX8_boxOf_56 rfl (lv_at hl 0 rfl) ?_
  have hm := Option.some.inj hm
  subst hm
  exact K 57 ls dX8_boxOf_57
set_option maxHeartbeats 4000000 in
set_option maxRecDepth 100000 in
theorem tX8_boxOf (l : Launch) {D : va_G} {n : Nat} {a1 : Int32} {a2 : Int32} {r : Int64} (hm : mX8_boxOf n mw a1 a2 = some r) : Met l yX8_boxOf (.code yX8_boxOf cX8_boxOf 6 (some .long) :: tw) ({ frames := 1, cells := 0, slots := 0, locals := 25 } : Room) (rdP D [.ref hM, .int a1, .int a2] (wdM cJ cI hM hM1 hM2 hM3 hM4 hM5 hM6 hM7 hM8 hM9 hM10 hM11 mw mt mrim mjn mhm mpn mbm mgm mpi mst mam mac mro mbe mhi mmi mgr mtr mle) [(cI, .int), (cJ, .long)]) (vp_Sl (fun q => q = r)) 0 0 (fun _ => False) := by
  refine Met.ofW (cc := cX8_boxOf) (maxL := 6) (ret := (some .long)) (by decide) rfl ?_
  intro p e s m args below meth c s₁ B hml hv
  obtain ⟨rfl, hP, hK⟩ := hv
  have hx := B.exec
  have hb := B.bytes
  have hr := B.returns
  have hts : ∀ w ∈ tw, w.before _ s = true := fun w h => atoms_spec (ws := .code yX8_boxOf cX8_boxOf 6 (some .long) :: tw) B.pre w (List.mem_cons_of_mem _ h)
  have hown : s.vm.findClass RX8 = some m.cls := findClass_of_methodNamed B.named
  have hlocks := B.notSynchronized
  have hl := lv_entry ([.ref hM, .int a1, .int a2]) (n := 6) (Nat.le_of_ble_eq_true rfl)
  rw [lg_entry_eq]
  generalize (lg_sl ([.ref hM, .int a1, .int a2]) ++ List.replicate (6 - (lg_sl ([.ref hM, .int a1, .int a2])).length) Slot.unset).toArray = ls at hl ⊢
  refine bX8_boxOf hx hb hml hown hts hP hK ⟨Nat.le_of_ble_eq_true rfl, Nat.le_of_ble_eq_true rfl, Nat.zero_le _, Nat.zero_le _⟩ hm ls hl (fun pc ls hd => ?_)
  exact W.lret hx hb hr (fun t ht hW => ⟨r, rfl, rfl, ht⟩) (fun q h => by cases h) hd
set_option maxHeartbeats 4000000 in
set_option maxRecDepth 100000 in
theorem kX8_boxOf {own : String} {cc : ByteArray} {nL idx pc : Nat} {ls : Array Slot} {rest : List Value} {n : Nat} {a1 : Int32} {a2 : Int32} {r : Int64} (fx : CallFix p m c cc nL s args tw own) (hq : Cond.methodLink own idx yX8_boxOf ∈ tw) (hP : va_P D vwCl (wdM cJ cI hM hM1 hM2 hM3 hM4 hM5 hM6 hM7 hM8 hM9 hM10 hM11 mw mt mrim mjn mhm mpn mbm mgm mpi mst mam mac mro mbe mhi mmi mgr mtr mle) H) (hK : va_K D vwCl [(cI, .int), (cJ, .long)] s) (hm : mX8_boxOf n mw a1 a2 = some r) (hsz : ls.size = nL) (hR : 2 ≤ R.frames ∧ 50 ≤ R.locals ∧ cells ≤ R.cells ∧ slots ≤ R.slots) (hst : (rest.map fun v => v.category).sum ≤ 8) (hd : decode cc pc = .ok (.invokevirtual idx, 3)) (kk : W p l e R s m args below meth c H locs cells slots Q (F0 m (pc + 3) ls (.long r :: rest))) : W p l e R s m args below meth c H locs cells slots Q (F0 m pc ls (.int a2 :: .int a1 :: .ref hM :: rest)) := by
  exact vp_callSl (va_Run.run (va_runV (As := [.int a1, .int a2]) (rest := rest) fx (tX8_boxOf l hm) (cwV 2 fx.2.2.2.2 (tw_V hq qw_67 qw_68 qw_45 qw_69) rfl rfl rfl (by decide +kernel) ⟨hR.1, hR.2.1⟩) ⟨rdP_bl, va_recv hK hP (ci := 8) (q0 := 0) rfl rfl, rdP_ok hP hK⟩ rfl rfl hsz rfl (lv_room hst) hd ⟨hR.2.2.1, hR.2.2.2⟩)) (fun r9 hr9 => by first | (rw [hr9]; exact kk) | (rw [hr9.1]; exact kk))
-- X8_stepFrom
def mX8_stepFrom (mw : Int32) (mt : Int32) (a1 : Int32) (a2 : Int32) : Option Int32 :=
  gd (¬ mw = 0) (gd (¬ mw = 0) ((if (mX8_in (((((jrem a1 mw) + (jrem a2 (3 : Int32))) - (1 : Int32))).toInt64) (0 : Int64) (((mw - (1 : Int32))).toInt64)) = 0 then (some (-9 : Int32)) else (if (mX8_in (((((a1 / mw) + (a2 / (3 : Int32))) - (1 : Int32))).toInt64) (0 : Int64) (((mt - (1 : Int32))).toInt64)) = 0 then (some (-9 : Int32)) else (some (((((a1 / mw) + (a2 / (3 : Int32))) - (1 : Int32)) * mw) + (((jrem a1 mw) + (jrem a2 (3 : Int32))) - (1 : Int32))))))))
theorem dX8_stepFrom_0 : decode cX8_stepFrom 0 = .ok (.iload_n 1, 1) := by decide +kernel
theorem dX8_stepFrom_1 : decode cX8_stepFrom 1 = .ok (.aload_n 0, 1) := by decide +kernel
theorem dX8_stepFrom_2 : decode cX8_stepFrom 2 = .ok (.getfield 7, 3) := by decide +kernel
theorem dX8_stepFrom_5 : decode cX8_stepFrom 5 = .ok (.irem, 1) := by decide +kernel
theorem dX8_stepFrom_6 : decode cX8_stepFrom 6 = .ok (.iload_n 2, 1) := by decide +kernel
theorem dX8_stepFrom_7 : decode cX8_stepFrom 7 = .ok (.iconst 3, 1) := by decide +kernel
theorem dX8_stepFrom_8 : decode cX8_stepFrom 8 = .ok (.irem, 1) := by decide +kernel
theorem dX8_stepFrom_9 : decode cX8_stepFrom 9 = .ok (.iadd, 1) := by decide +kernel
theorem dX8_stepFrom_10 : decode cX8_stepFrom 10 = .ok (.iconst 1, 1) := by decide +kernel
theorem dX8_stepFrom_11 : decode cX8_stepFrom 11 = .ok (.isub, 1) := by decide +kernel
theorem dX8_stepFrom_12 : decode cX8_stepFrom 12 = .ok (.istore_n 3, 1) := by decide +kernel
theorem dX8_stepFrom_13 : decode cX8_stepFrom 13 = .ok (.iload_n 1, 1) := by decide +kernel
theorem dX8_stepFrom_14 : decode cX8_stepFrom 14 = .ok (.aload_n 0, 1) := by decide +kernel
theorem dX8_stepFrom_15 : decode cX8_stepFrom 15 = .ok (.getfield 7, 3) := by decide +kernel
theorem dX8_stepFrom_18 : decode cX8_stepFrom 18 = .ok (.idiv, 1) := by decide +kernel
theorem dX8_stepFrom_19 : decode cX8_stepFrom 19 = .ok (.iload_n 2, 1) := by decide +kernel
theorem dX8_stepFrom_20 : decode cX8_stepFrom 20 = .ok (.iconst 3, 1) := by decide +kernel
theorem dX8_stepFrom_21 : decode cX8_stepFrom 21 = .ok (.idiv, 1) := by decide +kernel
theorem dX8_stepFrom_22 : decode cX8_stepFrom 22 = .ok (.iadd, 1) := by decide +kernel
theorem dX8_stepFrom_23 : decode cX8_stepFrom 23 = .ok (.iconst 1, 1) := by decide +kernel
theorem dX8_stepFrom_24 : decode cX8_stepFrom 24 = .ok (.isub, 1) := by decide +kernel
theorem dX8_stepFrom_25 : decode cX8_stepFrom 25 = .ok (.istore 4, 2) := by decide +kernel
theorem dX8_stepFrom_27 : decode cX8_stepFrom 27 = .ok (.iload_n 3, 1) := by decide +kernel
theorem dX8_stepFrom_28 : decode cX8_stepFrom 28 = .ok (.i2l, 1) := by decide +kernel
theorem dX8_stepFrom_29 : decode cX8_stepFrom 29 = .ok (.lconst 0, 1) := by decide +kernel
theorem dX8_stepFrom_30 : decode cX8_stepFrom 30 = .ok (.aload_n 0, 1) := by decide +kernel
theorem dX8_stepFrom_31 : decode cX8_stepFrom 31 = .ok (.getfield 7, 3) := by decide +kernel
theorem dX8_stepFrom_34 : decode cX8_stepFrom 34 = .ok (.iconst 1, 1) := by decide +kernel
theorem dX8_stepFrom_35 : decode cX8_stepFrom 35 = .ok (.isub, 1) := by decide +kernel
theorem dX8_stepFrom_36 : decode cX8_stepFrom 36 = .ok (.i2l, 1) := by decide +kernel
theorem dX8_stepFrom_37 : decode cX8_stepFrom 37 = .ok (.invokestatic 63, 3) := by decide +kernel
theorem dX8_stepFrom_40 : decode cX8_stepFrom 40 = .ok (.ifCond .eq 32, 3) := by decide +kernel
theorem dX8_stepFrom_43 : decode cX8_stepFrom 43 = .ok (.iload 4, 2) := by decide +kernel
theorem dX8_stepFrom_45 : decode cX8_stepFrom 45 = .ok (.i2l, 1) := by decide +kernel
theorem dX8_stepFrom_46 : decode cX8_stepFrom 46 = .ok (.lconst 0, 1) := by decide +kernel
theorem dX8_stepFrom_47 : decode cX8_stepFrom 47 = .ok (.aload_n 0, 1) := by decide +kernel
theorem dX8_stepFrom_48 : decode cX8_stepFrom 48 = .ok (.getfield 13, 3) := by decide +kernel
theorem dX8_stepFrom_51 : decode cX8_stepFrom 51 = .ok (.iconst 1, 1) := by decide +kernel
theorem dX8_stepFrom_52 : decode cX8_stepFrom 52 = .ok (.isub, 1) := by decide +kernel
theorem dX8_stepFrom_53 : decode cX8_stepFrom 53 = .ok (.i2l, 1) := by decide +kernel
theorem dX8_stepFrom_54 : decode cX8_stepFrom 54 = .ok (.invokestatic 63, 3) := by decide +kernel
theorem dX8_stepFrom_57 : decode cX8_stepFrom 57 = .ok (.ifCond .eq 15, 3) := by decide +kernel
theorem dX8_stepFrom_60 : decode cX8_stepFrom 60 = .ok (.iload 4, 2) := by decide +kernel
theorem dX8_stepFrom_62 : decode cX8_stepFrom 62 = .ok (.aload_n 0, 1) := by decide +kernel
theorem dX8_stepFrom_63 : decode cX8_stepFrom 63 = .ok (.getfield 7, 3) := by decide +kernel
theorem dX8_stepFrom_66 : decode cX8_stepFrom 66 = .ok (.imul, 1) := by decide +kernel
theorem dX8_stepFrom_67 : decode cX8_stepFrom 67 = .ok (.iload_n 3, 1) := by decide +kernel
theorem dX8_stepFrom_68 : decode cX8_stepFrom 68 = .ok (.iadd, 1) := by decide +kernel
theorem dX8_stepFrom_69 : decode cX8_stepFrom 69 = .ok (.goto 5, 3) := by decide +kernel
theorem dX8_stepFrom_72 : decode cX8_stepFrom 72 = .ok (.bipush (-9), 2) := by decide +kernel
theorem dX8_stepFrom_74 : decode cX8_stepFrom 74 = .ok (.ireturn, 1) := by decide +kernel
set_option maxHeartbeats 4000000 in
set_option maxRecDepth 100000 in
theorem bX8_stepFrom {a1 : Int32} {a2 : Int32} {r : Int32} (hx : p.tables.exec = Jvm.exec) (hb : c.code = cX8_stepFrom) (hml : c.maxLocals = 5) (hown : s.vm.findClass RX8 = some m.cls) (hts : ∀ w ∈ tw, w.before args s = true) (hP : va_P D vwCl (wdM cJ cI hM hM1 hM2 hM3 hM4 hM5 hM6 hM7 hM8 hM9 hM10 hM11 mw mt mrim mjn mhm mpn mbm mgm mpi mst mam mac mro mbe mhi mmi mgr mtr mle) H) (hK : va_K D vwCl [(cI, .int), (cJ, .long)] s) (hR : 1 ≤ R.frames ∧ 25 ≤ R.locals ∧ cells ≤ R.cells ∧ slots ≤ R.slots) (hm : mX8_stepFrom mw mt a1 a2 = some r) (ls : Array Slot) (hl : lv_has ls 5 [(0, .ref hM), (1, .int a1), (2, .int a2)]) (K : ∀ (pc : Nat) (ls : Array Slot), decode cX8_stepFrom pc = .ok (.ireturn, 1) → W p l e R s m args below meth c H locs cells slots Q (F0 m pc ls [.int r])) : W p l e R s m args below meth c H locs cells slots Q (F0 m 0 ls []) := by
  unfold mX8_stepFrom at hm
  refine lv_iload_n hx hb dX8_stepFrom_0 rfl (lv_at hl 1 rfl) ?_
  refine lv_aload_n hx hb dX8_stepFrom_1 rfl (lv_at hl 0 rfl) ?_
  refine va_get (D := D) (ci := 8) (v := .int mw) (C := RX8) (T := TX8) (N := 19) hx hb hts tnX8 hown hK hP 0 rfl rfl 0 (by decide) (hts _ qw_47) (fun _ h9 => h9) rfl dX8_stepFrom_2 ?_
  obtain ⟨g1, hm⟩ := gd_out hm
  refine lv_irem hx hb dX8_stepFrom_5 g1 ?_
  refine lv_iload_n hx hb dX8_stepFrom_6 rfl (lv_at hl 2 rfl) ?_
  refine lv_iconst (v := (3 : Int32)) hx hb dX8_stepFrom_7 (by decide) ?_
  refine lv_irem hx hb dX8_stepFrom_8 (by decide) ?_
  refine lv_iadd hx hb dX8_stepFrom_9 ?_
  refine lv_iconst (v := (1 : Int32)) hx hb dX8_stepFrom_10 (by decide) ?_
  refine lv_isub hx hb dX8_stepFrom_11 ?_
  refine lv_istore_n (lv' := [(3, .int (((jrem a1 mw) + (jrem a2 (3 : Int32))) - (1 : Int32))), (0, .ref hM), (1, .int a1), (2, .int a2)]) hx hb dX8_stepFrom_12 rfl hl (by decide) rfl (fun ls hl => ?_)
  refine lv_iload_n hx hb dX8_stepFrom_13 rfl (lv_at hl 2 rfl) ?_
  refine lv_aload_n hx hb dX8_stepFrom_14 rfl (lv_at hl 1 rfl) ?_
  refine va_get (D := D) (ci := 8) (v := .int mw) (C := RX8) (T := TX8) (N := 19) hx hb hts tnX8 hown hK hP 0 rfl rfl 0 (by decide) (hts _ qw_47) (fun _ h9 => h9) rfl dX8_stepFrom_15 ?_
  obtain ⟨g2, hm⟩ := gd_out hm
  refine lv_idiv hx hb dX8_stepFrom_18 g2 ?_
  refine lv_iload_n hx hb dX8_stepFrom_19 rfl (lv_at hl 3 rfl) ?_
  refine lv_iconst (v := (3 : Int32)) hx hb dX8_stepFrom_20 (by decide) ?_
  refine lv_idiv hx hb dX8_stepFrom_21 (by decide) ?_
  refine lv_iadd hx hb dX8_stepFrom_22 ?_
  refine lv_iconst (v := (1 : Int32)) hx hb dX8_stepFrom_23 (by decide) ?_
  refine lv_isub hx hb dX8_stepFrom_24 ?_
  refine lv_istore (lv' := [(4, .int (((a1 / mw) + (a2 / (3 : Int32))) - (1 : Int32))), (3, .int (((jrem a1 mw) + (jrem a2 (3 : Int32))) - (1 : Int32))), (0, .ref hM), (1, .int a1), (2, .int a2)]) hx hb dX8_stepFrom_25 hl (by decide) rfl (fun ls hl => ?_)
  refine lv_iload_n hx hb dX8_stepFrom_27 rfl (lv_at hl 1 rfl) ?_
  refine lv_i2l (v := (((((jrem a1 mw) + (jrem a2 (3 : Int32))) - (1 : Int32))).toInt64)) hx hb dX8_stepFrom_28 rfl ?_
  refine lv_lconst (v := (0 : Int64)) hx hb dX8_stepFrom_29 (by decide) ?_
  refine lv_aload_n hx hb dX8_stepFrom_30 rfl (lv_at hl 2 rfl) ?_
  refine va_get (D := D) (ci := 8) (v := .int mw) (C := RX8) (T := TX8) (N := 19) hx hb hts tnX8 hown hK hP 0 rfl rfl 0 (by decide) (hts _ qw_47) (fun _ h9 => h9) rfl dX8_stepFrom_31 ?_
  refine lv_iconst (v := (1 : Int32)) hx hb dX8_stepFrom_34 (by decide) ?_
  refine lv_isub hx hb dX8_stepFrom_35 ?_
  refine lv_i2l (v := (((mw - (1 : Int32))).toInt64)) hx hb dX8_stepFrom_36 rfl ?_
  refine kX8_in ⟨hx, hb, hml, hown, hts⟩ qw_57 hl.1 ⟨Nat.le_trans (by decide) hR.1, Nat.le_trans (by decide) hR.2.1, hR.2.2⟩ (Nat.le_of_ble_eq_true rfl) dX8_stepFrom_37 ?_
  refine lv_if_eq (tgt := 72) hx hb dX8_stepFrom_40 (by decide) (fun c4 => ?_) (fun c4 => ?_)
  · rw [if_pos c4] at hm
    refine lv_bipush (v := (-9 : Int32)) hx hb dX8_stepFrom_72 (by decide) ?_
    have hm := Option.some.inj hm
    subst hm
    exact K 74 ls dX8_stepFrom_74
  · rw [if_neg c4] at hm
    refine lv_iload hx hb dX8_stepFrom_43 (lv_at hl 0 rfl) ?_
    refine lv_i2l (v := (((((a1 / mw) + (a2 / (3 : Int32))) - (1 : Int32))).toInt64)) hx hb dX8_stepFrom_45 rfl ?_
    refine lv_lconst (v := (0 : Int64)) hx hb dX8_stepFrom_46 (by decide) ?_
    refine lv_aload_n hx hb dX8_stepFrom_47 rfl (lv_at hl 2 rfl) ?_
    refine va_get (D := D) (ci := 8) (v := .int mt) (C := RX8) (T := TX8) (N := 19) hx hb hts tnX8 hown hK hP 0 rfl rfl 1 (by decide) (hts _ qw_48) (fun _ h9 => h9) rfl dX8_stepFrom_48 ?_
    refine lv_iconst (v := (1 : Int32)) hx hb dX8_stepFrom_51 (by decide) ?_
    refine lv_isub hx hb dX8_stepFrom_52 ?_
    refine lv_i2l (v := (((mt - (1 : Int32))).toInt64)) hx hb dX8_stepFrom_53 rfl ?_
    refine kX8_in ⟨hx, hb, hml, hown, hts⟩ qw_57 hl.1 ⟨Nat.le_trans (by decide) hR.1, Nat.le_trans (by decide) hR.2.1, hR.2.2⟩ (Nat.le_of_ble_eq_true rfl) dX8_stepFrom_54 ?_
    refine lv_if_eq (tgt := 72) hx hb dX8_stepFrom_57 (by decide) (fun c6 => ?_) (fun c6 => ?_)
    · rw [if_pos c6] at hm
      refine lv_bipush (v := (-9 : Int32)) hx hb dX8_stepFrom_72 (by decide) ?_
      have hm := Option.some.inj hm
      subst hm
      exact K 74 ls dX8_stepFrom_74
    · rw [if_neg c6] at hm
      refine lv_iload hx hb dX8_stepFrom_60 (lv_at hl 0 rfl) ?_
      refine lv_aload_n hx hb dX8_stepFrom_62 rfl (lv_at hl 2 rfl) ?_
      refine va_get (D := D) (ci := 8) (v := .int mw) (C := RX8) (T := TX8) (N := 19) hx hb hts tnX8 hown hK hP 0 rfl rfl 0 (by decide) (hts _ qw_47) (fun _ h9 => h9) rfl dX8_stepFrom_63 ?_
      refine lv_imul hx hb dX8_stepFrom_66 ?_
      refine lv_iload_n hx hb dX8_stepFrom_67 rfl (lv_at hl 1 rfl) ?_
      refine lv_iadd hx hb dX8_stepFrom_68 ?_
      refine lv_goto (tgt := 74) hx hb dX8_stepFrom_69 (by decide) ?_
      have hm := Option.some.inj hm
      subst hm
      exact K 74 ls dX8_stepFrom_74
set_option maxHeartbeats 4000000 in
set_option maxRecDepth 100000 in
theorem tX8_stepFrom (l : Launch) {D : va_G} {a1 : Int32} {a2 : Int32} {r : Int32} (hm : mX8_stepFrom mw mt a1 a2 = some r) : Met l yX8_stepFrom (.code yX8_stepFrom cX8_stepFrom 5 (some .int) :: tw) ({ frames := 1, cells := 0, slots := 0, locals := 25 } : Room) (rdP D [.ref hM, .int a1, .int a2] (wdM cJ cI hM hM1 hM2 hM3 hM4 hM5 hM6 hM7 hM8 hM9 hM10 hM11 mw mt mrim mjn mhm mpn mbm mgm mpi mst mam mac mro mbe mhi mmi mgr mtr mle) [(cI, .int), (cJ, .long)]) (vp_Si (fun q => q = r)) 0 0 (fun _ => False) := by
  refine Met.ofW (cc := cX8_stepFrom) (maxL := 5) (ret := (some .int)) (by decide) rfl ?_
  intro p e s m args below meth c s₁ B hml hv
  obtain ⟨rfl, hP, hK⟩ := hv
  have hx := B.exec
  have hb := B.bytes
  have hr := B.returns
  have hts : ∀ w ∈ tw, w.before _ s = true := fun w h => atoms_spec (ws := .code yX8_stepFrom cX8_stepFrom 5 (some .int) :: tw) B.pre w (List.mem_cons_of_mem _ h)
  have hown : s.vm.findClass RX8 = some m.cls := findClass_of_methodNamed B.named
  have hlocks := B.notSynchronized
  have hl := lv_entry ([.ref hM, .int a1, .int a2]) (n := 5) (Nat.le_of_ble_eq_true rfl)
  rw [lg_entry_eq]
  generalize (lg_sl ([.ref hM, .int a1, .int a2]) ++ List.replicate (5 - (lg_sl ([.ref hM, .int a1, .int a2])).length) Slot.unset).toArray = ls at hl ⊢
  refine bX8_stepFrom hx hb hml hown hts hP hK ⟨Nat.le_of_ble_eq_true rfl, Nat.le_of_ble_eq_true rfl, Nat.zero_le _, Nat.zero_le _⟩ hm ls hl (fun pc ls hd => ?_)
  exact W.iret hx hb hr (fun t ht hW => ⟨r, rfl, rfl, ht⟩) (fun q h => by cases h) hd
set_option maxHeartbeats 4000000 in
set_option maxRecDepth 100000 in
theorem kX8_stepFrom {own : String} {cc : ByteArray} {nL idx pc : Nat} {ls : Array Slot} {rest : List Value} {a1 : Int32} {a2 : Int32} {r : Int32} (fx : CallFix p m c cc nL s args tw own) (hq : Cond.methodLink own idx yX8_stepFrom ∈ tw) (hP : va_P D vwCl (wdM cJ cI hM hM1 hM2 hM3 hM4 hM5 hM6 hM7 hM8 hM9 hM10 hM11 mw mt mrim mjn mhm mpn mbm mgm mpi mst mam mac mro mbe mhi mmi mgr mtr mle) H) (hK : va_K D vwCl [(cI, .int), (cJ, .long)] s) (hm : mX8_stepFrom mw mt a1 a2 = some r) (hsz : ls.size = nL) (hR : 2 ≤ R.frames ∧ 49 ≤ R.locals ∧ cells ≤ R.cells ∧ slots ≤ R.slots) (hst : (rest.map fun v => v.category).sum ≤ 8) (hd : decode cc pc = .ok (.invokevirtual idx, 3)) (kk : W p l e R s m args below meth c H locs cells slots Q (F0 m (pc + 3) ls (.int r :: rest))) : W p l e R s m args below meth c H locs cells slots Q (F0 m pc ls (.int a2 :: .int a1 :: .ref hM :: rest)) := by
  exact vp_callSi (va_Run.run (va_runV (As := [.int a1, .int a2]) (rest := rest) fx (tX8_stepFrom l hm) (cwV 2 fx.2.2.2.2 (tw_V hq qw_70 qw_71 qw_45 qw_72) rfl rfl rfl (by decide +kernel) ⟨hR.1, hR.2.1⟩) ⟨rdP_bl, va_recv hK hP (ci := 8) (q0 := 0) rfl rfl, rdP_ok hP hK⟩ rfl rfl hsz rfl (lv_room hst) hd ⟨hR.2.2.1, hR.2.2.2⟩)) (fun r9 hr9 => by first | (rw [hr9]; exact kk) | (rw [hr9.1]; exact kk))
-- X8_grown
def mX8_grown_L18 (n : Nat) (v1 : Int64) (v6 : Int32) (v3 : Int32) (mw : Int32) (mt : Int32) : Nat → (Int64) → (Int32) → Option ((Int64))
  | 0, _, _ => none
  | k + 1, v4, v7 => (if (9 : Int32) ≤ v7 then some (v4) else (if (mX8_has v1 v6) = 0 then some (v4) else jb (if ((v3 >>> (v7 &&& 31)) &&& (1 : Int32)) = (1 : Int32) then jb (mX8_stepFrom mw mt v6 v7) (fun (r12 : Int32) => (some (r12))) else (some ((-9 : Int32)))) (fun (j8 : Int32) => jl (if j8 = (-9 : Int32) then (0 : Int64) else (jlshl (1 : Int64) j8)) (fun j14 => mX8_grown_L18 n v1 v6 v3 mw mt k (v4 ||| j14) (v7 + (1 : Int32))))))
def mX8_grown_L6 (n : Nat) (mw : Int32) (mt : Int32) (v1 : Int64) (v3 : Int32) : Nat → (Int64) → (Int32) → Option ((Int64))
  | 0, _, _ => none
  | k + 1, v4, v6 => (if (mX8_cells mw mt) ≤ v6 then some (v4) else jb (mX8_grown_L18 n v1 v6 v3 mw mt n v4 (0 : Int32)) (fun (y18 : Int64) => mX8_grown_L6 n mw mt v1 v3 k y18 (v6 + (1 : Int32))))
def mX8_grown (n : Nat) (mw : Int32) (mt : Int32) (a1 : Int64) (a3 : Int32) : Option Int64 :=
  jb (mX8_grown_L6 n mw mt a1 a3 n (0 : Int64) (0 : Int32)) (fun (y20 : Int64) => (some y20))
theorem dX8_grown_0 : decode cX8_grown 0 = .ok (.lconst 0, 1) := by decide +kernel
theorem dX8_grown_1 : decode cX8_grown 1 = .ok (.lstore 4, 2) := by decide +kernel
theorem dX8_grown_3 : decode cX8_grown 3 = .ok (.iconst 0, 1) := by decide +kernel
theorem dX8_grown_4 : decode cX8_grown 4 = .ok (.istore 6, 2) := by decide +kernel
theorem dX8_grown_6 : decode cX8_grown 6 = .ok (.iload 6, 2) := by decide +kernel
theorem dX8_grown_8 : decode cX8_grown 8 = .ok (.aload_n 0, 1) := by decide +kernel
theorem dX8_grown_9 : decode cX8_grown 9 = .ok (.invokevirtual 57, 3) := by decide +kernel
theorem dX8_grown_12 : decode cX8_grown 12 = .ok (.if_icmp .ge 79, 3) := by decide +kernel
theorem dX8_grown_15 : decode cX8_grown 15 = .ok (.iconst 0, 1) := by decide +kernel
theorem dX8_grown_16 : decode cX8_grown 16 = .ok (.istore 7, 2) := by decide +kernel
theorem dX8_grown_18 : decode cX8_grown 18 = .ok (.iload 7, 2) := by decide +kernel
theorem dX8_grown_20 : decode cX8_grown 20 = .ok (.bipush 9, 2) := by decide +kernel
theorem dX8_grown_22 : decode cX8_grown 22 = .ok (.if_icmp .ge 63, 3) := by decide +kernel
theorem dX8_grown_25 : decode cX8_grown 25 = .ok (.lload_n 1, 1) := by decide +kernel
theorem dX8_grown_26 : decode cX8_grown 26 = .ok (.iload 6, 2) := by decide +kernel
theorem dX8_grown_28 : decode cX8_grown 28 = .ok (.invokestatic 78, 3) := by decide +kernel
theorem dX8_grown_31 : decode cX8_grown 31 = .ok (.ifCond .eq 54, 3) := by decide +kernel
theorem dX8_grown_34 : decode cX8_grown 34 = .ok (.iload_n 3, 1) := by decide +kernel
theorem dX8_grown_35 : decode cX8_grown 35 = .ok (.iload 7, 2) := by decide +kernel
theorem dX8_grown_37 : decode cX8_grown 37 = .ok (.ishr, 1) := by decide +kernel
theorem dX8_grown_38 : decode cX8_grown 38 = .ok (.iconst 1, 1) := by decide +kernel
theorem dX8_grown_39 : decode cX8_grown 39 = .ok (.iand, 1) := by decide +kernel
theorem dX8_grown_40 : decode cX8_grown 40 = .ok (.iconst 1, 1) := by decide +kernel
theorem dX8_grown_41 : decode cX8_grown 41 = .ok (.if_icmp .ne 14, 3) := by decide +kernel
theorem dX8_grown_44 : decode cX8_grown 44 = .ok (.aload_n 0, 1) := by decide +kernel
theorem dX8_grown_45 : decode cX8_grown 45 = .ok (.iload 6, 2) := by decide +kernel
theorem dX8_grown_47 : decode cX8_grown 47 = .ok (.iload 7, 2) := by decide +kernel
theorem dX8_grown_49 : decode cX8_grown 49 = .ok (.invokevirtual 96, 3) := by decide +kernel
theorem dX8_grown_52 : decode cX8_grown 52 = .ok (.goto 5, 3) := by decide +kernel
theorem dX8_grown_55 : decode cX8_grown 55 = .ok (.bipush (-9), 2) := by decide +kernel
theorem dX8_grown_57 : decode cX8_grown 57 = .ok (.istore 8, 2) := by decide +kernel
theorem dX8_grown_59 : decode cX8_grown 59 = .ok (.lload 4, 2) := by decide +kernel
theorem dX8_grown_61 : decode cX8_grown 61 = .ok (.iload 8, 2) := by decide +kernel
theorem dX8_grown_63 : decode cX8_grown 63 = .ok (.bipush (-9), 2) := by decide +kernel
theorem dX8_grown_65 : decode cX8_grown 65 = .ok (.if_icmp .ne 7, 3) := by decide +kernel
theorem dX8_grown_68 : decode cX8_grown 68 = .ok (.lconst 0, 1) := by decide +kernel
theorem dX8_grown_69 : decode cX8_grown 69 = .ok (.goto 7, 3) := by decide +kernel
theorem dX8_grown_72 : decode cX8_grown 72 = .ok (.lconst 1, 1) := by decide +kernel
theorem dX8_grown_73 : decode cX8_grown 73 = .ok (.iload 8, 2) := by decide +kernel
theorem dX8_grown_75 : decode cX8_grown 75 = .ok (.lshl, 1) := by decide +kernel
theorem dX8_grown_76 : decode cX8_grown 76 = .ok (.lor, 1) := by decide +kernel
theorem dX8_grown_77 : decode cX8_grown 77 = .ok (.lstore 4, 2) := by decide +kernel
theorem dX8_grown_79 : decode cX8_grown 79 = .ok (.iinc 7 1, 3) := by decide +kernel
theorem dX8_grown_82 : decode cX8_grown 82 = .ok (.goto (-64), 3) := by decide +kernel
theorem dX8_grown_85 : decode cX8_grown 85 = .ok (.iinc 6 1, 3) := by decide +kernel
theorem dX8_grown_88 : decode cX8_grown 88 = .ok (.goto (-82), 3) := by decide +kernel
theorem dX8_grown_91 : decode cX8_grown 91 = .ok (.lload 4, 2) := by decide +kernel
theorem dX8_grown_93 : decode cX8_grown 93 = .ok (.lreturn, 1) := by decide +kernel
set_option maxHeartbeats 4000000 in
set_option maxRecDepth 100000 in
theorem wX8_grown_L18 {n : Nat} {v1 : Int64} {v3 : Int32} {v6 : Int32} (hx : p.tables.exec = Jvm.exec) (hb : c.code = cX8_grown) (hml : c.maxLocals = 9) (hown : s.vm.findClass RX8 = some m.cls) (hts : ∀ w ∈ tw, w.before args s = true) (hP : va_P D vwCl (wdM cJ cI hM hM1 hM2 hM3 hM4 hM5 hM6 hM7 hM8 hM9 hM10 hM11 mw mt mrim mjn mhm mpn mbm mgm mpi mst mam mac mro mbe mhi mmi mgr mtr mle) H) (hK : va_K D vwCl [(cI, .int), (cJ, .long)] s) (hR : 2 ≤ R.frames ∧ 49 ≤ R.locals ∧ cells ≤ R.cells ∧ slots ≤ R.slots) : ∀ (k : Nat) (v4 : Int64) (v7 : Int32) (x4 : Int64), mX8_grown_L18 n v1 v6 v3 mw mt k v4 v7 = some (x4) → ∀ ls : Array Slot, lv_has ls 9 [(0, .ref hM), (1, .long v1), (3, .int v3), (4, .long v4), (6, .int v6), (7, .int v7)] → (∀ ls : Array Slot, lv_has ls 9 [(4, .long x4), (0, .ref hM), (1, .long v1), (3, .int v3), (6, .int v6)] → W p l e R s m args below meth c H locs cells slots Q (F0 m 85 ls [])) → W p l e R s m args below meth c H locs cells slots Q (F0 m 18 ls []) := by
  intro k
  induction k with
  | zero => intro v4 v7 x4 hm; rw [mX8_grown_L18] at hm; cases hm
  | succ k ih =>
    intro v4 v7 x4 hm ls hl K0
    rw [mX8_grown_L18] at hm
    refine lv_iload hx hb dX8_grown_18 (lv_at hl 5 rfl) ?_
    refine lv_bipush (v := (9 : Int32)) hx hb dX8_grown_20 (by decide) ?_
    refine lv_icmp_ge (tgt := 85) hx hb dX8_grown_22 (by decide) (fun c5 => ?_) (fun c5 => ?_)
    · rw [if_pos c5] at hm
      have hm := Option.some.inj hm
      have e9 : x4 = v4 := (congrArg (fun q => q) hm).symm
      rw [e9] at K0
      exact K0 ls (lv_sub hl [3, 0, 1, 2, 4] rfl)
    · rw [if_neg c5] at hm
      refine lv_lload_n hx hb dX8_grown_25 rfl (lv_at hl 1 rfl) ?_
      refine lv_iload hx hb dX8_grown_26 (lv_at hl 4 rfl) ?_
      refine kX8_has ⟨hx, hb, hml, hown, hts⟩ qw_73 hl.1 ⟨Nat.le_trans (by decide) hR.1, Nat.le_trans (by decide) hR.2.1, hR.2.2⟩ (Nat.le_of_ble_eq_true rfl) dX8_grown_28 ?_
      refine lv_if_eq (tgt := 85) hx hb dX8_grown_31 (by decide) (fun c7 => ?_) (fun c7 => ?_)
      · rw [if_pos c7] at hm
        have hm := Option.some.inj hm
        have e9 : x4 = v4 := (congrArg (fun q => q) hm).symm
        rw [e9] at K0
        exact K0 ls (lv_sub hl [3, 0, 1, 2, 4] rfl)
      · rw [if_neg c7] at hm
        refine lv_iload_n hx hb dX8_grown_34 rfl (lv_at hl 2 rfl) ?_
        refine lv_iload hx hb dX8_grown_35 (lv_at hl 5 rfl) ?_
        refine lv_ishr hx hb dX8_grown_37 ?_
        refine lv_iconst (v := (1 : Int32)) hx hb dX8_grown_38 (by decide) ?_
        refine lv_iand hx hb dX8_grown_39 ?_
        refine lv_iconst (v := (1 : Int32)) hx hb dX8_grown_40 (by decide) ?_
        obtain ⟨j8, hi9, hm⟩ := jb_out hm
        have key10 : ∀ (ls : Array Slot), lv_has ls 9 [(0, .ref hM), (1, .long v1), (3, .int v3), (4, .long v4), (6, .int v6), (7, .int v7)] → W p l e R s m args below meth c H locs cells slots Q (F0 m 57 ls [.int j8]) := by
          intro ls hl
          refine lv_istore (lv' := [(8, .int j8), (0, .ref hM), (1, .long v1), (3, .int v3), (4, .long v4), (6, .int v6), (7, .int v7)]) hx hb dX8_grown_57 hl (by decide) rfl (fun ls hl => ?_)
          refine lv_lload hx hb dX8_grown_59 (lv_at hl 4 rfl) ?_
          refine lv_iload hx hb dX8_grown_61 (lv_at hl 0 rfl) ?_
          refine lv_bipush (v := (-9 : Int32)) hx hb dX8_grown_63 (by decide) ?_
          obtain ⟨j14, hi15, hm⟩ := jl_out hm
          have key16 : ∀ (ls : Array Slot), lv_has ls 9 [(0, .ref hM), (1, .long v1), (3, .int v3), (6, .int v6), (7, .int v7)] → W p l e R s m args below meth c H locs cells slots Q (F0 m 76 ls [.long j14, .long v4]) := by
            intro ls hl
            refine lv_lor hx hb dX8_grown_76 ?_
            refine lv_lstore (lv' := [(4, .long (v4 ||| j14)), (0, .ref hM), (1, .long v1), (3, .int v3), (6, .int v6), (7, .int v7)]) hx hb dX8_grown_77 hl (by decide) rfl (fun ls hl => ?_)
            refine lv_iinc (v := (v7 + (1 : Int32))) (lv' := [(7, .int (v7 + (1 : Int32))), (4, .long (v4 ||| j14)), (0, .ref hM), (1, .long v1), (3, .int v3), (6, .int v6)]) hx hb dX8_grown_79 hl (k := 5) rfl (by rfl) (by decide) rfl (fun ls hl => ?_)
            refine lv_goto (tgt := 18) hx hb dX8_grown_82 (by decide) ?_
            exact ih _ _ _ hm ls (lv_sub hl [2, 3, 4, 1, 5, 0] rfl) K0
          refine lv_icmp_ne (tgt := 72) hx hb dX8_grown_65 (by decide) (fun c17 => ?_) (fun c17 => ?_)
          · rw [if_neg c17] at hi15
            refine lv_lconst (v := (1 : Int64)) hx hb dX8_grown_72 (by decide) ?_
            refine lv_iload hx hb dX8_grown_73 (lv_at hl 0 rfl) ?_
            refine lv_lshl (v := (jlshl (1 : Int64) j8)) hx hb dX8_grown_75 rfl ?_
            rw [hi15] at key16
            exact key16 ls (lv_sub hl [1, 2, 3, 5, 6] rfl)
          · rw [if_pos c17] at hi15
            refine lv_lconst (v := (0 : Int64)) hx hb dX8_grown_68 (by decide) ?_
            refine lv_goto (tgt := 76) hx hb dX8_grown_69 (by decide) ?_
            rw [hi15] at key16
            exact key16 ls (lv_sub hl [1, 2, 3, 5, 6] rfl)
        refine lv_icmp_ne (tgt := 55) hx hb dX8_grown_41 (by decide) (fun c11 => ?_) (fun c11 => ?_)
        · rw [if_neg c11] at hi9
          refine lv_bipush (v := (-9 : Int32)) hx hb dX8_grown_55 (by decide) ?_
          have hi9 := Option.some.inj hi9
          have e9 : j8 = (-9 : Int32) := (congrArg (fun q => q) hi9).symm
          rw [e9] at key10
          exact key10 ls (lv_sub hl [0, 1, 2, 3, 4, 5] rfl)
        · rw [if_pos c11] at hi9
          refine lv_aload_n hx hb dX8_grown_44 rfl (lv_at hl 0 rfl) ?_
          refine lv_iload hx hb dX8_grown_45 (lv_at hl 4 rfl) ?_
          refine lv_iload hx hb dX8_grown_47 (lv_at hl 5 rfl) ?_
          obtain ⟨r12, h13, hi9⟩ := jb_out hi9
          refine kX8_stepFrom ⟨hx, hb, hml, hown, hts⟩ qw_74 hP hK h13 hl.1 ⟨Nat.le_trans (by decide) hR.1, Nat.le_trans (by decide) hR.2.1, hR.2.2⟩ (Nat.le_of_ble_eq_true rfl) dX8_grown_49 ?_
          refine lv_goto (tgt := 57) hx hb dX8_grown_52 (by decide) ?_
          have hi9 := Option.some.inj hi9
          have e9 : j8 = r12 := (congrArg (fun q => q) hi9).symm
          rw [e9] at key10
          exact key10 ls (lv_sub hl [0, 1, 2, 3, 4, 5] rfl)
set_option maxHeartbeats 4000000 in
set_option maxRecDepth 100000 in
theorem wX8_grown_L6 {n : Nat} {v1 : Int64} {v3 : Int32} (hx : p.tables.exec = Jvm.exec) (hb : c.code = cX8_grown) (hml : c.maxLocals = 9) (hown : s.vm.findClass RX8 = some m.cls) (hts : ∀ w ∈ tw, w.before args s = true) (hP : va_P D vwCl (wdM cJ cI hM hM1 hM2 hM3 hM4 hM5 hM6 hM7 hM8 hM9 hM10 hM11 mw mt mrim mjn mhm mpn mbm mgm mpi mst mam mac mro mbe mhi mmi mgr mtr mle) H) (hK : va_K D vwCl [(cI, .int), (cJ, .long)] s) (hR : 2 ≤ R.frames ∧ 49 ≤ R.locals ∧ cells ≤ R.cells ∧ slots ≤ R.slots) : ∀ (k : Nat) (v4 : Int64) (v6 : Int32) (x4 : Int64), mX8_grown_L6 n mw mt v1 v3 k v4 v6 = some (x4) → ∀ ls : Array Slot, lv_has ls 9 [(0, .ref hM), (1, .long v1), (3, .int v3), (4, .long v4), (6, .int v6)] → (∀ ls : Array Slot, lv_has ls 9 [(4, .long x4)] → W p l e R s m args below meth c H locs cells slots Q (F0 m 91 ls [])) → W p l e R s m args below meth c H locs cells slots Q (F0 m 6 ls []) := by
  intro k
  induction k with
  | zero => intro v4 v6 x4 hm; rw [mX8_grown_L6] at hm; cases hm
  | succ k ih =>
    intro v4 v6 x4 hm ls hl K0
    rw [mX8_grown_L6] at hm
    refine lv_iload hx hb dX8_grown_6 (lv_at hl 4 rfl) ?_
    refine lv_aload_n hx hb dX8_grown_8 rfl (lv_at hl 0 rfl) ?_
    refine kX8_cells ⟨hx, hb, hml, hown, hts⟩ qw_52 hP hK hl.1 ⟨Nat.le_trans (by decide) hR.1, Nat.le_trans (by decide) hR.2.1, hR.2.2⟩ (Nat.le_of_ble_eq_true rfl) dX8_grown_9 ?_
    refine lv_icmp_ge (tgt := 91) hx hb dX8_grown_12 (by decide) (fun c3 => ?_) (fun c3 => ?_)
    · rw [if_pos c3] at hm
      have hm := Option.some.inj hm
      have e9 : x4 = v4 := (congrArg (fun q => q) hm).symm
      rw [e9] at K0
      exact K0 ls (lv_sub hl [3] rfl)
    · rw [if_neg c3] at hm
      refine lv_iconst (v := (0 : Int32)) hx hb dX8_grown_15 (by decide) ?_
      refine lv_istore (lv' := [(7, .int (0 : Int32)), (0, .ref hM), (1, .long v1), (3, .int v3), (4, .long v4), (6, .int v6)]) hx hb dX8_grown_16 hl (by decide) rfl (fun ls hl => ?_)
      obtain ⟨y18, h19, hm⟩ := jb_out hm
      refine wX8_grown_L18 hx hb hml hown hts hP hK hR n _ _ _  h19 ls (lv_sub hl [1, 2, 3, 4, 5, 0] rfl) (fun ls hl => ?_)
      refine lv_iinc (v := (v6 + (1 : Int32))) (lv' := [(6, .int (v6 + (1 : Int32))), (4, .long y18), (0, .ref hM), (1, .long v1), (3, .int v3)]) hx hb dX8_grown_85 hl (k := 4) rfl (by rfl) (by decide) rfl (fun ls hl => ?_)
      refine lv_goto (tgt := 6) hx hb dX8_grown_88 (by decide) ?_
      exact ih _ _ _ hm ls (lv_sub hl [2, 3, 4, 1, 0] rfl) K0
set_option maxHeartbeats 4000000 in
set_option maxRecDepth 100000 in
theorem bX8_grown {n : Nat} {a1 : Int64} {a3 : Int32} {r : Int64} (hx : p.tables.exec = Jvm.exec) (hb : c.code = cX8_grown) (hml : c.maxLocals = 9) (hown : s.vm.findClass RX8 = some m.cls) (hts : ∀ w ∈ tw, w.before args s = true) (hP : va_P D vwCl (wdM cJ cI hM hM1 hM2 hM3 hM4 hM5 hM6 hM7 hM8 hM9 hM10 hM11 mw mt mrim mjn mhm mpn mbm mgm mpi mst mam mac mro mbe mhi mmi mgr mtr mle) H) (hK : va_K D vwCl [(cI, .int), (cJ, .long)] s) (hR : 2 ≤ R.frames ∧ 49 ≤ R.locals ∧ cells ≤ R.cells ∧ slots ≤ R.slots) (hm : mX8_grown n mw mt a1 a3 = some r) (ls : Array Slot) (hl : lv_has ls 9 [(0, .ref hM), (1, .long a1), (3, .int a3)]) (K : ∀ (pc : Nat) (ls : Array Slot), decode cX8_grown pc = .ok (.lreturn, 1) → W p l e R s m args below meth c H locs cells slots Q (F0 m pc ls [.long r])) : W p l e R s m args below meth c H locs cells slots Q (F0 m 0 ls []) := by
  unfold mX8_grown at hm
  refine lv_lconst (v := (0 : Int64)) hx hb dX8_grown_0 (by decide) ?_
  refine lv_lstore (lv' := [(4, .long (0 : Int64)), (0, .ref hM), (1, .long a1), (3, .int a3)]) hx hb dX8_grown_1 hl (by decide) rfl (fun ls hl => ?_)
  refine lv_iconst (v := (0 : Int32)) hx hb dX8_grown_3 (by decide) ?_
  refine lv_istore (lv' := [(6, .int (0 : Int32)), (4, .long (0 : Int64)), (0, .ref hM), (1, .long a1), (3, .int a3)]) hx hb dX8_grown_4 hl (by decide) rfl (fun ls hl => ?_)
  obtain ⟨y20, h21, hm⟩ := jb_out hm
  refine wX8_grown_L6 hx hb hml hown hts hP hK hR n _ _ _  h21 ls (lv_sub hl [2, 3, 4, 1, 0] rfl) (fun ls hl => ?_)
  refine lv_lload hx hb dX8_grown_91 (lv_at hl 0 rfl) ?_
  have hm := Option.some.inj hm
  subst hm
  exact K 93 ls dX8_grown_93
set_option maxHeartbeats 4000000 in
set_option maxRecDepth 100000 in
theorem tX8_grown (l : Launch) {D : va_G} {n : Nat} {a1 : Int64} {a3 : Int32} {r : Int64} (hm : mX8_grown n mw mt a1 a3 = some r) : Met l yX8_grown (.code yX8_grown cX8_grown 9 (some .long) :: tw) ({ frames := 2, cells := 0, slots := 0, locals := 49 } : Room) (rdP D [.ref hM, .long a1, .int a3] (wdM cJ cI hM hM1 hM2 hM3 hM4 hM5 hM6 hM7 hM8 hM9 hM10 hM11 mw mt mrim mjn mhm mpn mbm mgm mpi mst mam mac mro mbe mhi mmi mgr mtr mle) [(cI, .int), (cJ, .long)]) (vp_Sl (fun q => q = r)) 0 0 (fun _ => False) := by
  refine Met.ofW (cc := cX8_grown) (maxL := 9) (ret := (some .long)) (by decide) rfl ?_
  intro p e s m args below meth c s₁ B hml hv
  obtain ⟨rfl, hP, hK⟩ := hv
  have hx := B.exec
  have hb := B.bytes
  have hr := B.returns
  have hts : ∀ w ∈ tw, w.before _ s = true := fun w h => atoms_spec (ws := .code yX8_grown cX8_grown 9 (some .long) :: tw) B.pre w (List.mem_cons_of_mem _ h)
  have hown : s.vm.findClass RX8 = some m.cls := findClass_of_methodNamed B.named
  have hlocks := B.notSynchronized
  have hl := lv_entry ([.ref hM, .long a1, .int a3]) (n := 9) (Nat.le_of_ble_eq_true rfl)
  rw [lg_entry_eq]
  generalize (lg_sl ([.ref hM, .long a1, .int a3]) ++ List.replicate (9 - (lg_sl ([.ref hM, .long a1, .int a3])).length) Slot.unset).toArray = ls at hl ⊢
  refine bX8_grown hx hb hml hown hts hP hK ⟨Nat.le_of_ble_eq_true rfl, Nat.le_of_ble_eq_true rfl, Nat.zero_le _, Nat.zero_le _⟩ hm ls hl (fun pc ls hd => ?_)
  exact W.lret hx hb hr (fun t ht hW => ⟨r, rfl, rfl, ht⟩) (fun q h => by cases h) hd
set_option maxHeartbeats 4000000 in
set_option maxRecDepth 100000 in
theorem kX8_grown {own : String} {cc : ByteArray} {nL idx pc : Nat} {ls : Array Slot} {rest : List Value} {n : Nat} {a1 : Int64} {a3 : Int32} {r : Int64} (fx : CallFix p m c cc nL s args tw own) (hq : Cond.methodLink own idx yX8_grown ∈ tw) (hP : va_P D vwCl (wdM cJ cI hM hM1 hM2 hM3 hM4 hM5 hM6 hM7 hM8 hM9 hM10 hM11 mw mt mrim mjn mhm mpn mbm mgm mpi mst mam mac mro mbe mhi mmi mgr mtr mle) H) (hK : va_K D vwCl [(cI, .int), (cJ, .long)] s) (hm : mX8_grown n mw mt a1 a3 = some r) (hsz : ls.size = nL) (hR : 3 ≤ R.frames ∧ 77 ≤ R.locals ∧ cells ≤ R.cells ∧ slots ≤ R.slots) (hst : (rest.map fun v => v.category).sum ≤ 8) (hd : decode cc pc = .ok (.invokevirtual idx, 3)) (kk : W p l e R s m args below meth c H locs cells slots Q (F0 m (pc + 3) ls (.long r :: rest))) : W p l e R s m args below meth c H locs cells slots Q (F0 m pc ls (.int a3 :: .long a1 :: .ref hM :: rest)) := by
  exact vp_callSl (va_Run.run (va_runV (As := [.long a1, .int a3]) (rest := rest) fx (tX8_grown l hm) (cwV 2 fx.2.2.2.2 (tw_V hq qw_75 qw_76 qw_45 qw_77) rfl rfl rfl (by decide +kernel) ⟨hR.1, hR.2.1⟩) ⟨rdP_bl, va_recv hK hP (ci := 8) (q0 := 0) rfl rfl, rdP_ok hP hK⟩ rfl rfl hsz rfl (lv_room hst) hd ⟨hR.2.2.1, hR.2.2.2⟩)) (fun r9 hr9 => by first | (rw [hr9]; exact kk) | (rw [hr9.1]; exact kk))
-- X8_worn
def mX8_worn_L21 (n : Nat) (v3 : Int32) (mw : Int32) (mt : Int32) (v6 : Int32) (mrim : Int32) (v1 : Int64) : Nat → (Int32) → (Int32) → Option ((Int32))
  | 0, _, _ => none
  | k + 1, v7, v8 => (if (9 : Int32) ≤ v8 then some (v7) else (if v7 = 0 then some (v7) else jb (if ((v3 >>> (v8 &&& 31)) &&& (1 : Int32)) = (1 : Int32) then jb (mX8_stepFrom mw mt v6 v8) (fun (r11 : Int32) => jl (if r11 = (-9 : Int32) then (if mrim = (1 : Int32) then (1 : Int32) else (0 : Int32)) else (mX8_has v1 r11)) (fun j13 => (some (j13)))) else (some (v7))) (fun (j7 : Int32) => mX8_worn_L21 n v3 mw mt v6 mrim v1 k j7 (v8 + (1 : Int32)))))
def mX8_worn_L6 (n : Nat) (mw : Int32) (mt : Int32) (v3 : Int32) (mrim : Int32) (v1 : Int64) : Nat → (Int64) → (Int32) → Option ((Int64))
  | 0, _, _ => none
  | k + 1, v4, v6 => (if (mX8_cells mw mt) ≤ v6 then some (v4) else jb (mX8_worn_L21 n v3 mw mt v6 mrim v1 n (1 : Int32) (0 : Int32)) (fun (y19 : Int32) => jl (if y19 = 0 then (0 : Int64) else (jlshl (1 : Int64) v6)) (fun j21 => mX8_worn_L6 n mw mt v3 mrim v1 k (v4 ||| j21) (v6 + (1 : Int32)))))
def mX8_worn (n : Nat) (mw : Int32) (mt : Int32) (mrim : Int32) (a1 : Int64) (a3 : Int32) : Option Int64 :=
  jb (mX8_worn_L6 n mw mt a3 mrim a1 n (0 : Int64) (0 : Int32)) (fun (y25 : Int64) => (some y25))
theorem dX8_worn_0 : decode cX8_worn 0 = .ok (.lconst 0, 1) := by decide +kernel
theorem dX8_worn_1 : decode cX8_worn 1 = .ok (.lstore 4, 2) := by decide +kernel
theorem dX8_worn_3 : decode cX8_worn 3 = .ok (.iconst 0, 1) := by decide +kernel
theorem dX8_worn_4 : decode cX8_worn 4 = .ok (.istore 6, 2) := by decide +kernel
theorem dX8_worn_6 : decode cX8_worn 6 = .ok (.iload 6, 2) := by decide +kernel
theorem dX8_worn_8 : decode cX8_worn 8 = .ok (.aload_n 0, 1) := by decide +kernel
theorem dX8_worn_9 : decode cX8_worn 9 = .ok (.invokevirtual 57, 3) := by decide +kernel
theorem dX8_worn_12 : decode cX8_worn 12 = .ok (.if_icmp .ge 102, 3) := by decide +kernel
theorem dX8_worn_15 : decode cX8_worn 15 = .ok (.iconst 1, 1) := by decide +kernel
theorem dX8_worn_16 : decode cX8_worn 16 = .ok (.istore 7, 2) := by decide +kernel
theorem dX8_worn_18 : decode cX8_worn 18 = .ok (.iconst 0, 1) := by decide +kernel
theorem dX8_worn_19 : decode cX8_worn 19 = .ok (.istore 8, 2) := by decide +kernel
theorem dX8_worn_21 : decode cX8_worn 21 = .ok (.iload 8, 2) := by decide +kernel
theorem dX8_worn_23 : decode cX8_worn 23 = .ok (.bipush 9, 2) := by decide +kernel
theorem dX8_worn_25 : decode cX8_worn 25 = .ok (.if_icmp .ge 65, 3) := by decide +kernel
theorem dX8_worn_28 : decode cX8_worn 28 = .ok (.iload 7, 2) := by decide +kernel
theorem dX8_worn_30 : decode cX8_worn 30 = .ok (.ifCond .eq 60, 3) := by decide +kernel
theorem dX8_worn_33 : decode cX8_worn 33 = .ok (.iload_n 3, 1) := by decide +kernel
theorem dX8_worn_34 : decode cX8_worn 34 = .ok (.iload 8, 2) := by decide +kernel
theorem dX8_worn_36 : decode cX8_worn 36 = .ok (.ishr, 1) := by decide +kernel
theorem dX8_worn_37 : decode cX8_worn 37 = .ok (.iconst 1, 1) := by decide +kernel
theorem dX8_worn_38 : decode cX8_worn 38 = .ok (.iand, 1) := by decide +kernel
theorem dX8_worn_39 : decode cX8_worn 39 = .ok (.iconst 1, 1) := by decide +kernel
theorem dX8_worn_40 : decode cX8_worn 40 = .ok (.if_icmp .ne 44, 3) := by decide +kernel
theorem dX8_worn_43 : decode cX8_worn 43 = .ok (.aload_n 0, 1) := by decide +kernel
theorem dX8_worn_44 : decode cX8_worn 44 = .ok (.iload 6, 2) := by decide +kernel
theorem dX8_worn_46 : decode cX8_worn 46 = .ok (.iload 8, 2) := by decide +kernel
theorem dX8_worn_48 : decode cX8_worn 48 = .ok (.invokevirtual 96, 3) := by decide +kernel
theorem dX8_worn_51 : decode cX8_worn 51 = .ok (.istore 9, 2) := by decide +kernel
theorem dX8_worn_53 : decode cX8_worn 53 = .ok (.iload 9, 2) := by decide +kernel
theorem dX8_worn_55 : decode cX8_worn 55 = .ok (.bipush (-9), 2) := by decide +kernel
theorem dX8_worn_57 : decode cX8_worn 57 = .ok (.if_icmp .ne 19, 3) := by decide +kernel
theorem dX8_worn_60 : decode cX8_worn 60 = .ok (.aload_n 0, 1) := by decide +kernel
theorem dX8_worn_61 : decode cX8_worn 61 = .ok (.getfield 24, 3) := by decide +kernel
theorem dX8_worn_64 : decode cX8_worn 64 = .ok (.iconst 1, 1) := by decide +kernel
theorem dX8_worn_65 : decode cX8_worn 65 = .ok (.if_icmp .ne 7, 3) := by decide +kernel
theorem dX8_worn_68 : decode cX8_worn 68 = .ok (.iconst 1, 1) := by decide +kernel
theorem dX8_worn_69 : decode cX8_worn 69 = .ok (.goto 13, 3) := by decide +kernel
theorem dX8_worn_72 : decode cX8_worn 72 = .ok (.iconst 0, 1) := by decide +kernel
theorem dX8_worn_73 : decode cX8_worn 73 = .ok (.goto 9, 3) := by decide +kernel
theorem dX8_worn_76 : decode cX8_worn 76 = .ok (.lload_n 1, 1) := by decide +kernel
theorem dX8_worn_77 : decode cX8_worn 77 = .ok (.iload 9, 2) := by decide +kernel
theorem dX8_worn_79 : decode cX8_worn 79 = .ok (.invokestatic 78, 3) := by decide +kernel
theorem dX8_worn_82 : decode cX8_worn 82 = .ok (.istore 7, 2) := by decide +kernel
theorem dX8_worn_84 : decode cX8_worn 84 = .ok (.iinc 8 1, 3) := by decide +kernel
theorem dX8_worn_87 : decode cX8_worn 87 = .ok (.goto (-66), 3) := by decide +kernel
theorem dX8_worn_90 : decode cX8_worn 90 = .ok (.lload 4, 2) := by decide +kernel
theorem dX8_worn_92 : decode cX8_worn 92 = .ok (.iload 7, 2) := by decide +kernel
theorem dX8_worn_94 : decode cX8_worn 94 = .ok (.ifCond .eq 10, 3) := by decide +kernel
theorem dX8_worn_97 : decode cX8_worn 97 = .ok (.lconst 1, 1) := by decide +kernel
theorem dX8_worn_98 : decode cX8_worn 98 = .ok (.iload 6, 2) := by decide +kernel
theorem dX8_worn_100 : decode cX8_worn 100 = .ok (.lshl, 1) := by decide +kernel
theorem dX8_worn_101 : decode cX8_worn 101 = .ok (.goto 4, 3) := by decide +kernel
theorem dX8_worn_104 : decode cX8_worn 104 = .ok (.lconst 0, 1) := by decide +kernel
theorem dX8_worn_105 : decode cX8_worn 105 = .ok (.lor, 1) := by decide +kernel
theorem dX8_worn_106 : decode cX8_worn 106 = .ok (.lstore 4, 2) := by decide +kernel
theorem dX8_worn_108 : decode cX8_worn 108 = .ok (.iinc 6 1, 3) := by decide +kernel
theorem dX8_worn_111 : decode cX8_worn 111 = .ok (.goto (-105), 3) := by decide +kernel
theorem dX8_worn_114 : decode cX8_worn 114 = .ok (.lload 4, 2) := by decide +kernel
theorem dX8_worn_116 : decode cX8_worn 116 = .ok (.lreturn, 1) := by decide +kernel
set_option maxHeartbeats 4000000 in
set_option maxRecDepth 100000 in
theorem wX8_worn_L21 {n : Nat} {v1 : Int64} {v3 : Int32} {v4 : Int64} {v6 : Int32} (hx : p.tables.exec = Jvm.exec) (hb : c.code = cX8_worn) (hml : c.maxLocals = 10) (hown : s.vm.findClass RX8 = some m.cls) (hts : ∀ w ∈ tw, w.before args s = true) (hP : va_P D vwCl (wdM cJ cI hM hM1 hM2 hM3 hM4 hM5 hM6 hM7 hM8 hM9 hM10 hM11 mw mt mrim mjn mhm mpn mbm mgm mpi mst mam mac mro mbe mhi mmi mgr mtr mle) H) (hK : va_K D vwCl [(cI, .int), (cJ, .long)] s) (hR : 2 ≤ R.frames ∧ 49 ≤ R.locals ∧ cells ≤ R.cells ∧ slots ≤ R.slots) : ∀ (k : Nat) (v7 : Int32) (v8 : Int32) (x7 : Int32), mX8_worn_L21 n v3 mw mt v6 mrim v1 k v7 v8 = some (x7) → ∀ ls : Array Slot, lv_has ls 10 [(0, .ref hM), (1, .long v1), (3, .int v3), (4, .long v4), (6, .int v6), (7, .int v7), (8, .int v8)] → (∀ ls : Array Slot, lv_has ls 10 [(7, .int x7), (0, .ref hM), (1, .long v1), (3, .int v3), (4, .long v4), (6, .int v6)] → W p l e R s m args below meth c H locs cells slots Q (F0 m 90 ls [])) → W p l e R s m args below meth c H locs cells slots Q (F0 m 21 ls []) := by
  intro k
  induction k with
  | zero => intro v7 v8 x7 hm; rw [mX8_worn_L21] at hm; cases hm
  | succ k ih =>
    intro v7 v8 x7 hm ls hl K0
    rw [mX8_worn_L21] at hm
    refine lv_iload hx hb dX8_worn_21 (lv_at hl 6 rfl) ?_
    refine lv_bipush (v := (9 : Int32)) hx hb dX8_worn_23 (by decide) ?_
    refine lv_icmp_ge (tgt := 90) hx hb dX8_worn_25 (by decide) (fun c5 => ?_) (fun c5 => ?_)
    · rw [if_pos c5] at hm
      have hm := Option.some.inj hm
      have e9 : x7 = v7 := (congrArg (fun q => q) hm).symm
      rw [e9] at K0
      exact K0 ls (lv_sub hl [5, 0, 1, 2, 3, 4] rfl)
    · rw [if_neg c5] at hm
      refine lv_iload hx hb dX8_worn_28 (lv_at hl 5 rfl) ?_
      refine lv_if_eq (tgt := 90) hx hb dX8_worn_30 (by decide) (fun c6 => ?_) (fun c6 => ?_)
      · rw [if_pos c6] at hm
        have hm := Option.some.inj hm
        have e9 : x7 = v7 := (congrArg (fun q => q) hm).symm
        rw [e9] at K0
        exact K0 ls (lv_sub hl [5, 0, 1, 2, 3, 4] rfl)
      · rw [if_neg c6] at hm
        refine lv_iload_n hx hb dX8_worn_33 rfl (lv_at hl 2 rfl) ?_
        refine lv_iload hx hb dX8_worn_34 (lv_at hl 6 rfl) ?_
        refine lv_ishr hx hb dX8_worn_36 ?_
        refine lv_iconst (v := (1 : Int32)) hx hb dX8_worn_37 (by decide) ?_
        refine lv_iand hx hb dX8_worn_38 ?_
        refine lv_iconst (v := (1 : Int32)) hx hb dX8_worn_39 (by decide) ?_
        obtain ⟨j7, hi8, hm⟩ := jb_out hm
        have key9 : ∀ (ls : Array Slot), lv_has ls 10 [(7, .int j7), (0, .ref hM), (1, .long v1), (3, .int v3), (4, .long v4), (6, .int v6), (8, .int v8)] → W p l e R s m args below meth c H locs cells slots Q (F0 m 84 ls []) := by
          intro ls hl
          refine lv_iinc (v := (v8 + (1 : Int32))) (lv' := [(8, .int (v8 + (1 : Int32))), (7, .int j7), (0, .ref hM), (1, .long v1), (3, .int v3), (4, .long v4), (6, .int v6)]) hx hb dX8_worn_84 hl (k := 6) rfl (by rfl) (by decide) rfl (fun ls hl => ?_)
          refine lv_goto (tgt := 21) hx hb dX8_worn_87 (by decide) ?_
          exact ih _ _ _ hm ls (lv_sub hl [2, 3, 4, 5, 6, 1, 0] rfl) K0
        refine lv_icmp_ne (tgt := 84) hx hb dX8_worn_40 (by decide) (fun c10 => ?_) (fun c10 => ?_)
        · rw [if_neg c10] at hi8
          have hi8 := Option.some.inj hi8
          have e9 : j7 = v7 := (congrArg (fun q => q) hi8).symm
          rw [e9] at key9
          exact key9 ls (lv_sub hl [5, 0, 1, 2, 3, 4, 6] rfl)
        · rw [if_pos c10] at hi8
          refine lv_aload_n hx hb dX8_worn_43 rfl (lv_at hl 0 rfl) ?_
          refine lv_iload hx hb dX8_worn_44 (lv_at hl 4 rfl) ?_
          refine lv_iload hx hb dX8_worn_46 (lv_at hl 6 rfl) ?_
          obtain ⟨r11, h12, hi8⟩ := jb_out hi8
          refine kX8_stepFrom ⟨hx, hb, hml, hown, hts⟩ qw_74 hP hK h12 hl.1 ⟨Nat.le_trans (by decide) hR.1, Nat.le_trans (by decide) hR.2.1, hR.2.2⟩ (Nat.le_of_ble_eq_true rfl) dX8_worn_48 ?_
          refine lv_istore (lv' := [(9, .int r11), (0, .ref hM), (1, .long v1), (3, .int v3), (4, .long v4), (6, .int v6), (7, .int v7), (8, .int v8)]) hx hb dX8_worn_51 hl (by decide) rfl (fun ls hl => ?_)
          refine lv_iload hx hb dX8_worn_53 (lv_at hl 0 rfl) ?_
          refine lv_bipush (v := (-9 : Int32)) hx hb dX8_worn_55 (by decide) ?_
          obtain ⟨j13, hi14, hi8⟩ := jl_out hi8
          have key15 : ∀ (ls : Array Slot), lv_has ls 10 [(0, .ref hM), (1, .long v1), (3, .int v3), (4, .long v4), (6, .int v6), (8, .int v8)] → W p l e R s m args below meth c H locs cells slots Q (F0 m 82 ls [.int j13]) := by
            intro ls hl
            refine lv_istore (lv' := [(7, .int j13), (0, .ref hM), (1, .long v1), (3, .int v3), (4, .long v4), (6, .int v6), (8, .int v8)]) hx hb dX8_worn_82 hl (by decide) rfl (fun ls hl => ?_)
            have hi8 := Option.some.inj hi8
            have e9 : j7 = j13 := (congrArg (fun q => q) hi8).symm
            rw [e9] at key9
            exact key9 ls (lv_sub hl [0, 1, 2, 3, 4, 5, 6] rfl)
          refine lv_icmp_ne (tgt := 76) hx hb dX8_worn_57 (by decide) (fun c16 => ?_) (fun c16 => ?_)
          · rw [if_neg c16] at hi14
            refine lv_lload_n hx hb dX8_worn_76 rfl (lv_at hl 2 rfl) ?_
            refine lv_iload hx hb dX8_worn_77 (lv_at hl 0 rfl) ?_
            refine kX8_has ⟨hx, hb, hml, hown, hts⟩ qw_73 hl.1 ⟨Nat.le_trans (by decide) hR.1, Nat.le_trans (by decide) hR.2.1, hR.2.2⟩ (Nat.le_of_ble_eq_true rfl) dX8_worn_79 ?_
            rw [hi14] at key15
            exact key15 ls (lv_sub hl [1, 2, 3, 4, 5, 7] rfl)
          · rw [if_pos c16] at hi14
            refine lv_aload_n hx hb dX8_worn_60 rfl (lv_at hl 1 rfl) ?_
            refine va_get (D := D) (ci := 8) (v := .int mrim) (C := RX8) (T := TX8) (N := 19) hx hb hts tnX8 hown hK hP 0 rfl rfl 4 (by decide) (hts _ qw_78) (fun _ h9 => h9) rfl dX8_worn_61 ?_
            refine lv_iconst (v := (1 : Int32)) hx hb dX8_worn_64 (by decide) ?_
            refine lv_icmp_ne (tgt := 72) hx hb dX8_worn_65 (by decide) (fun c18 => ?_) (fun c18 => ?_)
            · rw [if_neg c18] at hi14
              refine lv_iconst (v := (0 : Int32)) hx hb dX8_worn_72 (by decide) ?_
              refine lv_goto (tgt := 82) hx hb dX8_worn_73 (by decide) ?_
              rw [hi14] at key15
              exact key15 ls (lv_sub hl [1, 2, 3, 4, 5, 7] rfl)
            · rw [if_pos c18] at hi14
              refine lv_iconst (v := (1 : Int32)) hx hb dX8_worn_68 (by decide) ?_
              refine lv_goto (tgt := 82) hx hb dX8_worn_69 (by decide) ?_
              rw [hi14] at key15
              exact key15 ls (lv_sub hl [1, 2, 3, 4, 5, 7] rfl)
set_option maxHeartbeats 4000000 in
set_option maxRecDepth 100000 in
theorem wX8_worn_L6 {n : Nat} {v1 : Int64} {v3 : Int32} (hx : p.tables.exec = Jvm.exec) (hb : c.code = cX8_worn) (hml : c.maxLocals = 10) (hown : s.vm.findClass RX8 = some m.cls) (hts : ∀ w ∈ tw, w.before args s = true) (hP : va_P D vwCl (wdM cJ cI hM hM1 hM2 hM3 hM4 hM5 hM6 hM7 hM8 hM9 hM10 hM11 mw mt mrim mjn mhm mpn mbm mgm mpi mst mam mac mro mbe mhi mmi mgr mtr mle) H) (hK : va_K D vwCl [(cI, .int), (cJ, .long)] s) (hR : 2 ≤ R.frames ∧ 49 ≤ R.locals ∧ cells ≤ R.cells ∧ slots ≤ R.slots) : ∀ (k : Nat) (v4 : Int64) (v6 : Int32) (x4 : Int64), mX8_worn_L6 n mw mt v3 mrim v1 k v4 v6 = some (x4) → ∀ ls : Array Slot, lv_has ls 10 [(0, .ref hM), (1, .long v1), (3, .int v3), (4, .long v4), (6, .int v6)] → (∀ ls : Array Slot, lv_has ls 10 [(4, .long x4)] → W p l e R s m args below meth c H locs cells slots Q (F0 m 114 ls [])) → W p l e R s m args below meth c H locs cells slots Q (F0 m 6 ls []) := by
  intro k
  induction k with
  | zero => intro v4 v6 x4 hm; rw [mX8_worn_L6] at hm; cases hm
  | succ k ih =>
    intro v4 v6 x4 hm ls hl K0
    rw [mX8_worn_L6] at hm
    refine lv_iload hx hb dX8_worn_6 (lv_at hl 4 rfl) ?_
    refine lv_aload_n hx hb dX8_worn_8 rfl (lv_at hl 0 rfl) ?_
    refine kX8_cells ⟨hx, hb, hml, hown, hts⟩ qw_52 hP hK hl.1 ⟨Nat.le_trans (by decide) hR.1, Nat.le_trans (by decide) hR.2.1, hR.2.2⟩ (Nat.le_of_ble_eq_true rfl) dX8_worn_9 ?_
    refine lv_icmp_ge (tgt := 114) hx hb dX8_worn_12 (by decide) (fun c3 => ?_) (fun c3 => ?_)
    · rw [if_pos c3] at hm
      have hm := Option.some.inj hm
      have e9 : x4 = v4 := (congrArg (fun q => q) hm).symm
      rw [e9] at K0
      exact K0 ls (lv_sub hl [3] rfl)
    · rw [if_neg c3] at hm
      refine lv_iconst (v := (1 : Int32)) hx hb dX8_worn_15 (by decide) ?_
      refine lv_istore (lv' := [(7, .int (1 : Int32)), (0, .ref hM), (1, .long v1), (3, .int v3), (4, .long v4), (6, .int v6)]) hx hb dX8_worn_16 hl (by decide) rfl (fun ls hl => ?_)
      refine lv_iconst (v := (0 : Int32)) hx hb dX8_worn_18 (by decide) ?_
      refine lv_istore (lv' := [(8, .int (0 : Int32)), (7, .int (1 : Int32)), (0, .ref hM), (1, .long v1), (3, .int v3), (4, .long v4), (6, .int v6)]) hx hb dX8_worn_19 hl (by decide) rfl (fun ls hl => ?_)
      obtain ⟨y19, h20, hm⟩ := jb_out hm
      refine wX8_worn_L21 hx hb hml hown hts hP hK hR n _ _ _  h20 ls (lv_sub hl [2, 3, 4, 5, 6, 1, 0] rfl) (fun ls hl => ?_)
      refine lv_lload hx hb dX8_worn_90 (lv_at hl 4 rfl) ?_
      refine lv_iload hx hb dX8_worn_92 (lv_at hl 0 rfl) ?_
      obtain ⟨j21, hi22, hm⟩ := jl_out hm
      have key23 : ∀ (ls : Array Slot), lv_has ls 10 [(0, .ref hM), (1, .long v1), (3, .int v3), (6, .int v6)] → W p l e R s m args below meth c H locs cells slots Q (F0 m 105 ls [.long j21, .long v4]) := by
        intro ls hl
        refine lv_lor hx hb dX8_worn_105 ?_
        refine lv_lstore (lv' := [(4, .long (v4 ||| j21)), (0, .ref hM), (1, .long v1), (3, .int v3), (6, .int v6)]) hx hb dX8_worn_106 hl (by decide) rfl (fun ls hl => ?_)
        refine lv_iinc (v := (v6 + (1 : Int32))) (lv' := [(6, .int (v6 + (1 : Int32))), (4, .long (v4 ||| j21)), (0, .ref hM), (1, .long v1), (3, .int v3)]) hx hb dX8_worn_108 hl (k := 4) rfl (by rfl) (by decide) rfl (fun ls hl => ?_)
        refine lv_goto (tgt := 6) hx hb dX8_worn_111 (by decide) ?_
        exact ih _ _ _ hm ls (lv_sub hl [2, 3, 4, 1, 0] rfl) K0
      refine lv_if_eq (tgt := 104) hx hb dX8_worn_94 (by decide) (fun c24 => ?_) (fun c24 => ?_)
      · rw [if_pos c24] at hi22
        refine lv_lconst (v := (0 : Int64)) hx hb dX8_worn_104 (by decide) ?_
        rw [hi22] at key23
        exact key23 ls (lv_sub hl [1, 2, 3, 5] rfl)
      · rw [if_neg c24] at hi22
        refine lv_lconst (v := (1 : Int64)) hx hb dX8_worn_97 (by decide) ?_
        refine lv_iload hx hb dX8_worn_98 (lv_at hl 5 rfl) ?_
        refine lv_lshl (v := (jlshl (1 : Int64) v6)) hx hb dX8_worn_100 rfl ?_
        refine lv_goto (tgt := 105) hx hb dX8_worn_101 (by decide) ?_
        rw [hi22] at key23
        exact key23 ls (lv_sub hl [1, 2, 3, 5] rfl)
set_option maxHeartbeats 4000000 in
set_option maxRecDepth 100000 in
theorem bX8_worn {n : Nat} {a1 : Int64} {a3 : Int32} {r : Int64} (hx : p.tables.exec = Jvm.exec) (hb : c.code = cX8_worn) (hml : c.maxLocals = 10) (hown : s.vm.findClass RX8 = some m.cls) (hts : ∀ w ∈ tw, w.before args s = true) (hP : va_P D vwCl (wdM cJ cI hM hM1 hM2 hM3 hM4 hM5 hM6 hM7 hM8 hM9 hM10 hM11 mw mt mrim mjn mhm mpn mbm mgm mpi mst mam mac mro mbe mhi mmi mgr mtr mle) H) (hK : va_K D vwCl [(cI, .int), (cJ, .long)] s) (hR : 2 ≤ R.frames ∧ 49 ≤ R.locals ∧ cells ≤ R.cells ∧ slots ≤ R.slots) (hm : mX8_worn n mw mt mrim a1 a3 = some r) (ls : Array Slot) (hl : lv_has ls 10 [(0, .ref hM), (1, .long a1), (3, .int a3)]) (K : ∀ (pc : Nat) (ls : Array Slot), decode cX8_worn pc = .ok (.lreturn, 1) → W p l e R s m args below meth c H locs cells slots Q (F0 m pc ls [.long r])) : W p l e R s m args below meth c H locs cells slots Q (F0 m 0 ls []) := by
  unfold mX8_worn at hm
  refine lv_lconst (v := (0 : Int64)) hx hb dX8_worn_0 (by decide) ?_
  refine lv_lstore (lv' := [(4, .long (0 : Int64)), (0, .ref hM), (1, .long a1), (3, .int a3)]) hx hb dX8_worn_1 hl (by decide) rfl (fun ls hl => ?_)
  refine lv_iconst (v := (0 : Int32)) hx hb dX8_worn_3 (by decide) ?_
  refine lv_istore (lv' := [(6, .int (0 : Int32)), (4, .long (0 : Int64)), (0, .ref hM), (1, .long a1), (3, .int a3)]) hx hb dX8_worn_4 hl (by decide) rfl (fun ls hl => ?_)
  obtain ⟨y25, h26, hm⟩ := jb_out hm
  refine wX8_worn_L6 hx hb hml hown hts hP hK hR n _ _ _  h26 ls (lv_sub hl [2, 3, 4, 1, 0] rfl) (fun ls hl => ?_)
  refine lv_lload hx hb dX8_worn_114 (lv_at hl 0 rfl) ?_
  have hm := Option.some.inj hm
  subst hm
  exact K 116 ls dX8_worn_116
set_option maxHeartbeats 4000000 in
set_option maxRecDepth 100000 in
theorem tX8_worn (l : Launch) {D : va_G} {n : Nat} {a1 : Int64} {a3 : Int32} {r : Int64} (hm : mX8_worn n mw mt mrim a1 a3 = some r) : Met l yX8_worn (.code yX8_worn cX8_worn 10 (some .long) :: tw) ({ frames := 2, cells := 0, slots := 0, locals := 49 } : Room) (rdP D [.ref hM, .long a1, .int a3] (wdM cJ cI hM hM1 hM2 hM3 hM4 hM5 hM6 hM7 hM8 hM9 hM10 hM11 mw mt mrim mjn mhm mpn mbm mgm mpi mst mam mac mro mbe mhi mmi mgr mtr mle) [(cI, .int), (cJ, .long)]) (vp_Sl (fun q => q = r)) 0 0 (fun _ => False) := by
  refine Met.ofW (cc := cX8_worn) (maxL := 10) (ret := (some .long)) (by decide) rfl ?_
  intro p e s m args below meth c s₁ B hml hv
  obtain ⟨rfl, hP, hK⟩ := hv
  have hx := B.exec
  have hb := B.bytes
  have hr := B.returns
  have hts : ∀ w ∈ tw, w.before _ s = true := fun w h => atoms_spec (ws := .code yX8_worn cX8_worn 10 (some .long) :: tw) B.pre w (List.mem_cons_of_mem _ h)
  have hown : s.vm.findClass RX8 = some m.cls := findClass_of_methodNamed B.named
  have hlocks := B.notSynchronized
  have hl := lv_entry ([.ref hM, .long a1, .int a3]) (n := 10) (Nat.le_of_ble_eq_true rfl)
  rw [lg_entry_eq]
  generalize (lg_sl ([.ref hM, .long a1, .int a3]) ++ List.replicate (10 - (lg_sl ([.ref hM, .long a1, .int a3])).length) Slot.unset).toArray = ls at hl ⊢
  refine bX8_worn hx hb hml hown hts hP hK ⟨Nat.le_of_ble_eq_true rfl, Nat.le_of_ble_eq_true rfl, Nat.zero_le _, Nat.zero_le _⟩ hm ls hl (fun pc ls hd => ?_)
  exact W.lret hx hb hr (fun t ht hW => ⟨r, rfl, rfl, ht⟩) (fun q h => by cases h) hd
set_option maxHeartbeats 4000000 in
set_option maxRecDepth 100000 in
theorem kX8_worn {own : String} {cc : ByteArray} {nL idx pc : Nat} {ls : Array Slot} {rest : List Value} {n : Nat} {a1 : Int64} {a3 : Int32} {r : Int64} (fx : CallFix p m c cc nL s args tw own) (hq : Cond.methodLink own idx yX8_worn ∈ tw) (hP : va_P D vwCl (wdM cJ cI hM hM1 hM2 hM3 hM4 hM5 hM6 hM7 hM8 hM9 hM10 hM11 mw mt mrim mjn mhm mpn mbm mgm mpi mst mam mac mro mbe mhi mmi mgr mtr mle) H) (hK : va_K D vwCl [(cI, .int), (cJ, .long)] s) (hm : mX8_worn n mw mt mrim a1 a3 = some r) (hsz : ls.size = nL) (hR : 3 ≤ R.frames ∧ 78 ≤ R.locals ∧ cells ≤ R.cells ∧ slots ≤ R.slots) (hst : (rest.map fun v => v.category).sum ≤ 8) (hd : decode cc pc = .ok (.invokevirtual idx, 3)) (kk : W p l e R s m args below meth c H locs cells slots Q (F0 m (pc + 3) ls (.long r :: rest))) : W p l e R s m args below meth c H locs cells slots Q (F0 m pc ls (.int a3 :: .long a1 :: .ref hM :: rest)) := by
  exact vp_callSl (va_Run.run (va_runV (As := [.long a1, .int a3]) (rest := rest) fx (tX8_worn l hm) (cwV 2 fx.2.2.2.2 (tw_V hq qw_79 qw_80 qw_45 qw_81) rfl rfl rfl (by decide +kernel) ⟨hR.1, hR.2.1⟩) ⟨rdP_bl, va_recv hK hP (ci := 8) (q0 := 0) rfl rfl, rdP_ok hP hK⟩ rfl rfl hsz rfl (lv_room hst) hd ⟨hR.2.2.1, hR.2.2.2⟩)) (fun r9 hr9 => by first | (rw [hr9]; exact kk) | (rw [hr9.1]; exact kk))
end
end
