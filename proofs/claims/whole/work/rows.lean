section
def lw_okq (q : MethodName × Nat) : Prop := (q.1.cls ≠ "java/lang/invoke/MethodHandle" ∧ q.1.cls ≠ "java/lang/invoke/VarHandle") ∧ Cond.instantiable q.1.cls q.2 ∈ tables_1 ∧ Cond.privateMethod q.1 ∈ tables_1 ∧ Cond.instanceMethod q.1 ∈ tables_1
theorem lw_p0 : lw_okq (⟨"CutBlocks", "forgetAllCuts", "()V"⟩, 3) := ⟨⟨by decide +kernel, by decide +kernel⟩, List.mem_of_getElem? (i := 12) (by decide +kernel), List.mem_of_getElem? (i := 183) (by decide +kernel), List.mem_of_getElem? (i := 184) (by decide +kernel)⟩
theorem lw_p1 : lw_okq (⟨"CutBlocks", "hasByte", "(II)Z"⟩, 3) := ⟨⟨by decide +kernel, by decide +kernel⟩, List.mem_of_getElem? (i := 12) (by decide +kernel), List.mem_of_getElem? (i := 258) (by decide +kernel), List.mem_of_getElem? (i := 259) (by decide +kernel)⟩
theorem lw_p2 : lw_okq (⟨"CutBlocks", "cutRow", "(I)LCutBlocks$Row;"⟩, 3) := ⟨⟨by decide +kernel, by decide +kernel⟩, List.mem_of_getElem? (i := 12) (by decide +kernel), List.mem_of_getElem? (i := 266) (by decide +kernel), List.mem_of_getElem? (i := 267) (by decide +kernel)⟩
theorem lw_p3 : lw_okq (⟨"CutBlocks$Rules", "numberWith", "(I[III)I"⟩, 7) := ⟨⟨by decide +kernel, by decide +kernel⟩, List.mem_of_getElem? (i := 20) (by decide +kernel), List.mem_of_getElem? (i := 282) (by decide +kernel), List.mem_of_getElem? (i := 283) (by decide +kernel)⟩
theorem lw_p4 : lw_okq (⟨"CutBlocks$Rules", "allowed", "(I)Z"⟩, 7) := ⟨⟨by decide +kernel, by decide +kernel⟩, List.mem_of_getElem? (i := 20) (by decide +kernel), List.mem_of_getElem? (i := 289) (by decide +kernel), List.mem_of_getElem? (i := 290) (by decide +kernel)⟩
theorem lw_p5 : lw_okq (⟨"CutBlocks$Rules", "marksAt", "(I)I"⟩, 7) := ⟨⟨by decide +kernel, by decide +kernel⟩, List.mem_of_getElem? (i := 20) (by decide +kernel), List.mem_of_getElem? (i := 293) (by decide +kernel), List.mem_of_getElem? (i := 294) (by decide +kernel)⟩
theorem lw_p6 : lw_okq (⟨"CutBlocks", "hasBlock", "(II)Z"⟩, 3) := ⟨⟨by decide +kernel, by decide +kernel⟩, List.mem_of_getElem? (i := 12) (by decide +kernel), List.mem_of_getElem? (i := 308) (by decide +kernel), List.mem_of_getElem? (i := 309) (by decide +kernel)⟩
theorem lw_p7 : lw_okq (⟨"CutBlocks", "indexedRow", "(I)LCutBlocks$Row;"⟩, 3) := ⟨⟨by decide +kernel, by decide +kernel⟩, List.mem_of_getElem? (i := 12) (by decide +kernel), List.mem_of_getElem? (i := 353) (by decide +kernel), List.mem_of_getElem? (i := 354) (by decide +kernel)⟩
theorem lw_p8 : lw_okq (⟨"CutBlocks$Store", "leastFree", "()I"⟩, 4) := ⟨⟨by decide +kernel, by decide +kernel⟩, List.mem_of_getElem? (i := 122) (by decide +kernel), List.mem_of_getElem? (i := 407) (by decide +kernel), List.mem_of_getElem? (i := 408) (by decide +kernel)⟩
theorem lw_p9 : lw_okq (⟨"CutBlocks$Store", "sweep", "()I"⟩, 4) := ⟨⟨by decide +kernel, by decide +kernel⟩, List.mem_of_getElem? (i := 122) (by decide +kernel), List.mem_of_getElem? (i := 418) (by decide +kernel), List.mem_of_getElem? (i := 419) (by decide +kernel)⟩
theorem lw_p10 : lw_okq (⟨"CutBlocks$Store", "renumber", "()V"⟩, 4) := ⟨⟨by decide +kernel, by decide +kernel⟩, List.mem_of_getElem? (i := 122) (by decide +kernel), List.mem_of_getElem? (i := 430) (by decide +kernel), List.mem_of_getElem? (i := 431) (by decide +kernel)⟩
theorem lw_p11 : lw_okq (⟨"CutBlocks$Store", "takeInNew", "(LCutBlocks$Row;I)I"⟩, 4) := ⟨⟨by decide +kernel, by decide +kernel⟩, List.mem_of_getElem? (i := 122) (by decide +kernel), List.mem_of_getElem? (i := 434) (by decide +kernel), List.mem_of_getElem? (i := 435) (by decide +kernel)⟩
theorem lw_p12 : lw_okq (⟨"CutBlocks$Store", "countPlaces", "(LCutBlocks$Snapshot;I)V"⟩, 4) := ⟨⟨by decide +kernel, by decide +kernel⟩, List.mem_of_getElem? (i := 122) (by decide +kernel), List.mem_of_getElem? (i := 438) (by decide +kernel), List.mem_of_getElem? (i := 439) (by decide +kernel)⟩
theorem lw_p13 : lw_okq (⟨"CutBlocks$Row", "chainLength", "(I)I"⟩, 6) := ⟨⟨by decide +kernel, by decide +kernel⟩, List.mem_of_getElem? (i := 66) (by decide +kernel), List.mem_of_getElem? (i := 493) (by decide +kernel), List.mem_of_getElem? (i := 494) (by decide +kernel)⟩
theorem lw_p14 : lw_okq (⟨"CutBlocksModel", "layTable", "(I)V"⟩, 24) := ⟨⟨by decide +kernel, by decide +kernel⟩, List.mem_of_getElem? (i := 504) (by decide +kernel), List.mem_of_getElem? (i := 510) (by decide +kernel), List.mem_of_getElem? (i := 511) (by decide +kernel)⟩
theorem lw_p15 : lw_okq (⟨"CutBlocksModel", "insertAt", "(III)I"⟩, 24) := ⟨⟨by decide +kernel, by decide +kernel⟩, List.mem_of_getElem? (i := 504) (by decide +kernel), List.mem_of_getElem? (i := 608) (by decide +kernel), List.mem_of_getElem? (i := 609) (by decide +kernel)⟩
def lw_privs_1 : List (MethodName × Nat) := [(⟨"CutBlocks", "forgetAllCuts", "()V"⟩, 3), (⟨"CutBlocks", "hasByte", "(II)Z"⟩, 3), (⟨"CutBlocks", "cutRow", "(I)LCutBlocks$Row;"⟩, 3), (⟨"CutBlocks$Rules", "numberWith", "(I[III)I"⟩, 7), (⟨"CutBlocks$Rules", "allowed", "(I)Z"⟩, 7), (⟨"CutBlocks$Rules", "marksAt", "(I)I"⟩, 7), (⟨"CutBlocks", "hasBlock", "(II)Z"⟩, 3), (⟨"CutBlocks", "indexedRow", "(I)LCutBlocks$Row;"⟩, 3), (⟨"CutBlocks$Store", "leastFree", "()I"⟩, 4), (⟨"CutBlocks$Store", "sweep", "()I"⟩, 4), (⟨"CutBlocks$Store", "renumber", "()V"⟩, 4), (⟨"CutBlocks$Store", "takeInNew", "(LCutBlocks$Row;I)I"⟩, 4), (⟨"CutBlocks$Store", "countPlaces", "(LCutBlocks$Snapshot;I)V"⟩, 4), (⟨"CutBlocks$Row", "chainLength", "(I)I"⟩, 6), (⟨"CutBlocksModel", "layTable", "(I)V"⟩, 24), (⟨"CutBlocksModel", "insertAt", "(III)I"⟩, 24)]
theorem lw_r1 : ∀ q ∈ lw_privs_1, lw_okq q := List.forall_mem_cons.mpr ⟨lw_p0, List.forall_mem_cons.mpr ⟨lw_p1, List.forall_mem_cons.mpr ⟨lw_p2, List.forall_mem_cons.mpr ⟨lw_p3, List.forall_mem_cons.mpr ⟨lw_p4, List.forall_mem_cons.mpr ⟨lw_p5, List.forall_mem_cons.mpr ⟨lw_p6, List.forall_mem_cons.mpr ⟨lw_p7, List.forall_mem_cons.mpr ⟨lw_p8, List.forall_mem_cons.mpr ⟨lw_p9, List.forall_mem_cons.mpr ⟨lw_p10, List.forall_mem_cons.mpr ⟨lw_p11, List.forall_mem_cons.mpr ⟨lw_p12, List.forall_mem_cons.mpr ⟨lw_p13, List.forall_mem_cons.mpr ⟨lw_p14, List.forall_mem_cons.mpr ⟨lw_p15, fun _ h => absurd h List.not_mem_nil⟩⟩⟩⟩⟩⟩⟩⟩⟩⟩⟩⟩⟩⟩⟩⟩
theorem lw_p16 : lw_okq (⟨"CutBlocksModel", "layCuts", "(I[I)I"⟩, 24) := ⟨⟨by decide +kernel, by decide +kernel⟩, List.mem_of_getElem? (i := 504) (by decide +kernel), List.mem_of_getElem? (i := 641) (by decide +kernel), List.mem_of_getElem? (i := 642) (by decide +kernel)⟩
theorem lw_p17 : lw_okq (⟨"CutBlocksModel", "longFrom", "(II)I"⟩, 24) := ⟨⟨by decide +kernel, by decide +kernel⟩, List.mem_of_getElem? (i := 504) (by decide +kernel), List.mem_of_getElem? (i := 645) (by decide +kernel), List.mem_of_getElem? (i := 646) (by decide +kernel)⟩
theorem lw_p18 : lw_okq (⟨"CutBlocksModel", "next", "(IIII)I"⟩, 24) := ⟨⟨by decide +kernel, by decide +kernel⟩, List.mem_of_getElem? (i := 504) (by decide +kernel), List.mem_of_getElem? (i := 649) (by decide +kernel), List.mem_of_getElem? (i := 650) (by decide +kernel)⟩
theorem lw_p19 : lw_okq (⟨"CutBlocksModel", "isBlock", "(II)Z"⟩, 24) := ⟨⟨by decide +kernel, by decide +kernel⟩, List.mem_of_getElem? (i := 504) (by decide +kernel), List.mem_of_getElem? (i := 663) (by decide +kernel), List.mem_of_getElem? (i := 664) (by decide +kernel)⟩
theorem lw_p20 : lw_okq (⟨"CutBlocksModel", "isLike", "(IIII)Z"⟩, 24) := ⟨⟨by decide +kernel, by decide +kernel⟩, List.mem_of_getElem? (i := 504) (by decide +kernel), List.mem_of_getElem? (i := 688) (by decide +kernel), List.mem_of_getElem? (i := 689) (by decide +kernel)⟩
theorem lw_p21 : lw_okq (⟨"CutBlocksModel", "find", "(II)I"⟩, 24) := ⟨⟨by decide +kernel, by decide +kernel⟩, List.mem_of_getElem? (i := 504) (by decide +kernel), List.mem_of_getElem? (i := 699) (by decide +kernel), List.mem_of_getElem? (i := 700) (by decide +kernel)⟩
theorem lw_p22 : lw_okq (⟨"CutBlocksModel", "giveUp", "(IIII)I"⟩, 24) := ⟨⟨by decide +kernel, by decide +kernel⟩, List.mem_of_getElem? (i := 504) (by decide +kernel), List.mem_of_getElem? (i := 703) (by decide +kernel), List.mem_of_getElem? (i := 704) (by decide +kernel)⟩
theorem lw_p23 : lw_okq (⟨"CutBlocksModel", "isSnapshot", "(I)Z"⟩, 24) := ⟨⟨by decide +kernel, by decide +kernel⟩, List.mem_of_getElem? (i := 504) (by decide +kernel), List.mem_of_getElem? (i := 711) (by decide +kernel), List.mem_of_getElem? (i := 712) (by decide +kernel)⟩
theorem lw_p24 : lw_okq (⟨"CutBlocksModel", "takeOut", "(I)V"⟩, 24) := ⟨⟨by decide +kernel, by decide +kernel⟩, List.mem_of_getElem? (i := 504) (by decide +kernel), List.mem_of_getElem? (i := 715) (by decide +kernel), List.mem_of_getElem? (i := 716) (by decide +kernel)⟩
theorem lw_p25 : lw_okq (⟨"CutBlocksModel", "bytesOf", "(I)I"⟩, 24) := ⟨⟨by decide +kernel, by decide +kernel⟩, List.mem_of_getElem? (i := 504) (by decide +kernel), List.mem_of_getElem? (i := 727) (by decide +kernel), List.mem_of_getElem? (i := 728) (by decide +kernel)⟩
theorem lw_p26 : lw_okq (⟨"CutBlocksModel", "keysTold", "(Z)I"⟩, 24) := ⟨⟨by decide +kernel, by decide +kernel⟩, List.mem_of_getElem? (i := 504) (by decide +kernel), List.mem_of_getElem? (i := 739) (by decide +kernel), List.mem_of_getElem? (i := 740) (by decide +kernel)⟩
theorem lw_p27 : lw_okq (⟨"CutBlocksModel", "keyOf", "(I)J"⟩, 24) := ⟨⟨by decide +kernel, by decide +kernel⟩, List.mem_of_getElem? (i := 504) (by decide +kernel), List.mem_of_getElem? (i := 743) (by decide +kernel), List.mem_of_getElem? (i := 744) (by decide +kernel)⟩
def lw_privs_2 : List (MethodName × Nat) := [(⟨"CutBlocksModel", "layCuts", "(I[I)I"⟩, 24), (⟨"CutBlocksModel", "longFrom", "(II)I"⟩, 24), (⟨"CutBlocksModel", "next", "(IIII)I"⟩, 24), (⟨"CutBlocksModel", "isBlock", "(II)Z"⟩, 24), (⟨"CutBlocksModel", "isLike", "(IIII)Z"⟩, 24), (⟨"CutBlocksModel", "find", "(II)I"⟩, 24), (⟨"CutBlocksModel", "giveUp", "(IIII)I"⟩, 24), (⟨"CutBlocksModel", "isSnapshot", "(I)Z"⟩, 24), (⟨"CutBlocksModel", "takeOut", "(I)V"⟩, 24), (⟨"CutBlocksModel", "bytesOf", "(I)I"⟩, 24), (⟨"CutBlocksModel", "keysTold", "(Z)I"⟩, 24), (⟨"CutBlocksModel", "keyOf", "(I)J"⟩, 24)]
theorem lw_r2 : ∀ q ∈ lw_privs_2, lw_okq q := List.forall_mem_cons.mpr ⟨lw_p16, List.forall_mem_cons.mpr ⟨lw_p17, List.forall_mem_cons.mpr ⟨lw_p18, List.forall_mem_cons.mpr ⟨lw_p19, List.forall_mem_cons.mpr ⟨lw_p20, List.forall_mem_cons.mpr ⟨lw_p21, List.forall_mem_cons.mpr ⟨lw_p22, List.forall_mem_cons.mpr ⟨lw_p23, List.forall_mem_cons.mpr ⟨lw_p24, List.forall_mem_cons.mpr ⟨lw_p25, List.forall_mem_cons.mpr ⟨lw_p26, List.forall_mem_cons.mpr ⟨lw_p27, fun _ h => absurd h List.not_mem_nil⟩⟩⟩⟩⟩⟩⟩⟩⟩⟩⟩⟩
def lw_privs : List (MethodName × Nat) := lw_privs_1 ++ (lw_privs_2)
def lw_tbl : List Cond := k2_sels lw_privs ++ tables_1
theorem lw_privs_ok : ∀ q ∈ lw_privs, lw_okq q := by
  show ∀ q ∈ lw_privs_1 ++ (lw_privs_2), lw_okq q
  exact List.forall_mem_append.mpr ⟨lw_r1, lw_r2⟩
end
section
def cR0 : String := "CutBlocks$Row"
def cT0 : u_T := fun k => match k with
  | 0 => ("CutBlocks$Row", "bytes", "[I", true)
  | 1 => ("CutBlocks$Row", "starts", "[I", true)
  | 2 => ("CutBlocks$Row", "sums", "[I", true)
  | 3 => ("CutBlocks$Row", "heads", "[I", true)
  | 4 => ("CutBlocks$Row", "nexts", "[I", true)
  | _ => ("CutBlocks$Row", "count", "I", false)
def cY0 : Nat → FieldType := fun k => match k with
  | 0 => .array .int
  | 1 => .array .int
  | 2 => .array .int
  | 3 => .array .int
  | 4 => .array .int
  | _ => .int
theorem cN0 : ∀ a, a < 6 → ∀ b, b < 6 → a ≠ b → (cT0 a).2.1 ≠ (cT0 b).2.1 := by decide +kernel
theorem cP0 : ∀ k, k < 6 → parseFieldDescriptor (cT0 k).2.2.1 = some (cY0 k) := by decide +kernel
def cR1 : String := "CutBlocks$Rules"
def cT1 : u_T := fun k => match k with
  | 0 => ("CutBlocks$Rules", "table", "[I", true)
  | 1 => ("CutBlocks$Rules", "mode", "I", false)
  | 2 => ("CutBlocks$Rules", "least", "I", false)
  | 3 => ("CutBlocks$Rules", "greatest", "I", false)
  | 4 => ("CutBlocks$Rules", "bits", "I", false)
  | 5 => ("CutBlocks$Rules", "level", "I", false)
  | _ => ("CutBlocks$Rules", "record", "I", false)
def cY1 : Nat → FieldType := fun k => match k with
  | 0 => .array .int
  | 1 => .int
  | 2 => .int
  | 3 => .int
  | 4 => .int
  | 5 => .int
  | _ => .int
theorem cN1 : ∀ a, a < 7 → ∀ b, b < 7 → a ≠ b → (cT1 a).2.1 ≠ (cT1 b).2.1 := by decide +kernel
theorem cP1 : ∀ k, k < 7 → parseFieldDescriptor (cT1 k).2.2.1 = some (cY1 k) := by decide +kernel
def cR2 : String := "CutBlocks$Snapshot"
def cT2 : u_T := fun k => match k with
  | 0 => ("CutBlocks$Snapshot", "numbers", "[I", true)
  | 1 => ("CutBlocks$Snapshot", "count", "I", false)
  | 2 => ("CutBlocks$Snapshot", "length", "I", false)
  | _ => ("CutBlocks$Snapshot", "there", "Z", false)
def cY2 : Nat → FieldType := fun k => match k with
  | 0 => .array .int
  | 1 => .int
  | 2 => .int
  | _ => .boolean
theorem cN2 : ∀ a, a < 4 → ∀ b, b < 4 → a ≠ b → (cT2 a).2.1 ≠ (cT2 b).2.1 := by decide +kernel
theorem cP2 : ∀ k, k < 4 → parseFieldDescriptor (cT2 k).2.2.1 = some (cY2 k) := by decide +kernel
def cR3 : String := "CutBlocks$Store"
def cT3 : u_T := fun k => match k with
  | 0 => ("CutBlocks$Store", "row", "LCutBlocks$Row;", true)
  | 1 => ("CutBlocks$Store", "places", "[I", true)
  | 2 => ("CutBlocks$Store", "newNumbers", "[I", true)
  | _ => ("CutBlocks$Store", "snapshots", "[LCutBlocks$Snapshot;", true)
def cY3 : Nat → FieldType := fun k => match k with
  | 0 => .object "CutBlocks$Row"
  | 1 => .array .int
  | 2 => .array .int
  | _ => .array (.object "CutBlocks$Snapshot")
theorem cN3 : ∀ a, a < 4 → ∀ b, b < 4 → a ≠ b → (cT3 a).2.1 ≠ (cT3 b).2.1 := by decide +kernel
theorem cP3 : ∀ k, k < 4 → parseFieldDescriptor (cT3 k).2.2.1 = some (cY3 k) := by decide +kernel
def cR4 : String := "CutBlocks$Text"
def cT4 : u_T := fun k => match k with
  | 0 => ("CutBlocks$Text", "row", "LCutBlocks$Row;", true)
  | 1 => ("CutBlocks$Text", "length", "I", false)
  | 2 => ("CutBlocks$Text", "cut", "Z", false)
  | _ => ("CutBlocks$Text", "indexed", "Z", false)
def cY4 : Nat → FieldType := fun k => match k with
  | 0 => .object "CutBlocks$Row"
  | 1 => .int
  | 2 => .boolean
  | _ => .boolean
theorem cN4 : ∀ a, a < 4 → ∀ b, b < 4 → a ≠ b → (cT4 a).2.1 ≠ (cT4 b).2.1 := by decide +kernel
theorem cP4 : ∀ k, k < 4 → parseFieldDescriptor (cT4 k).2.2.1 = some (cY4 k) := by decide +kernel
def cR5 : String := "CutBlocks"
def cT5 : u_T := fun k => match k with
  | 0 => ("CutBlocks", "rules", "LCutBlocks$Rules;", true)
  | 1 => ("CutBlocks", "texts", "[LCutBlocks$Text;", true)
  | _ => ("CutBlocks", "store", "LCutBlocks$Store;", true)
def cY5 : Nat → FieldType := fun k => match k with
  | 0 => .object "CutBlocks$Rules"
  | 1 => .array (.object "CutBlocks$Text")
  | _ => .object "CutBlocks$Store"
theorem cN5 : ∀ a, a < 3 → ∀ b, b < 3 → a ≠ b → (cT5 a).2.1 ≠ (cT5 b).2.1 := by decide +kernel
theorem cP5 : ∀ k, k < 3 → parseFieldDescriptor (cT5 k).2.2.1 = some (cY5 k) := by decide +kernel
def cR6 : String := "CutBlocksModel"
def cT6 : u_T := fun k => match k with
  | 0 => ("CutBlocksModel", "code", "I", false)
  | 1 => ("CutBlocksModel", "texts", "[I", true)
  | 2 => ("CutBlocksModel", "sizes", "[I", true)
  | 3 => ("CutBlocksModel", "table", "[I", true)
  | 4 => ("CutBlocksModel", "mode", "I", false)
  | 5 => ("CutBlocksModel", "least", "I", false)
  | 6 => ("CutBlocksModel", "greatest", "I", false)
  | 7 => ("CutBlocksModel", "bits", "I", false)
  | 8 => ("CutBlocksModel", "level", "I", false)
  | 9 => ("CutBlocksModel", "record", "I", false)
  | 10 => ("CutBlocksModel", "begins", "[I", true)
  | 11 => ("CutBlocksModel", "many", "I", false)
  | 12 => ("CutBlocksModel", "others", "[I", true)
  | 13 => ("CutBlocksModel", "otherMany", "I", false)
  | 14 => ("CutBlocksModel", "pool", "[I", true)
  | 15 => ("CutBlocksModel", "poolSize", "I", false)
  | 16 => ("CutBlocksModel", "keptMany", "I", false)
  | 17 => ("CutBlocksModel", "keptAt", "[I", true)
  | 18 => ("CutBlocksModel", "keptLong", "[I", true)
  | 19 => ("CutBlocksModel", "keptUses", "[I", true)
  | 20 => ("CutBlocksModel", "isThere", "[Z", true)
  | 21 => ("CutBlocksModel", "rowSize", "[I", true)
  | 22 => ("CutBlocksModel", "rows", "[I", true)
  | _ => ("CutBlocksModel", "keys", "[I", true)
def cY6 : Nat → FieldType := fun k => match k with
  | 0 => .int
  | 1 => .array .int
  | 2 => .array .int
  | 3 => .array .int
  | 4 => .int
  | 5 => .int
  | 6 => .int
  | 7 => .int
  | 8 => .int
  | 9 => .int
  | 10 => .array .int
  | 11 => .int
  | 12 => .array .int
  | 13 => .int
  | 14 => .array .int
  | 15 => .int
  | 16 => .int
  | 17 => .array .int
  | 18 => .array .int
  | 19 => .array .int
  | 20 => .array .boolean
  | 21 => .array .int
  | 22 => .array .int
  | _ => .array .int
theorem cN6 : ∀ a, a < 24 → ∀ b, b < 24 → a ≠ b → (cT6 a).2.1 ≠ (cT6 b).2.1 := by decide +kernel
theorem cP6 : ∀ k, k < 24 → parseFieldDescriptor (cT6 k).2.2.1 = some (cY6 k) := by decide +kernel
def vwCl : List vw_C := [(cR0, cT0, 6), (cR1, cT1, 7), (cR2, cT2, 4), (cR3, cT3, 4), (cR4, cT4, 4), (cR5, cT5, 3), (cR6, cT6, 24)]
def kv_flags : Nat → List Bool := fun k => match k with
  | 0 => [true, true, true, true, true, false]
  | 1 => [true, false, false, false, false, false, false]
  | 2 => [true, false, false, false]
  | 3 => [true, true, true, true]
  | 4 => [true, false, false, false]
  | 5 => [true, true, true]
  | 6 => [false, true, true, true, false, false, false, false, false, false, true, false, true, false, true, false, false, true, true, true, true, true, true, true]
  | _ => []
def kv_tys (cA : Nat → ClassId) : List (ClassId × FieldType) := [(cA 0, .int), (cA 1, .boolean), (cA 6, .object "CutBlocks$Text"), (cA 4, .object "CutBlocks$Snapshot")]
def kv_ao : List String := ["CutBlocks$Text", "CutBlocks$Snapshot"]
end
section
abbrev kv_Sh : Type := (Nat × Nat) ⊕ (Nat × Nat × (Nat → Option Nat)) ⊕ (Nat × (Nat → Option Nat))
abbrev kv_SM : Type := Nat → kv_Sh
abbrev kv_IM : Type := Nat → Nat → Int32
abbrev kv_B : Type := Nat × Nat × Nat × (Nat → Int32)
abbrev kv_M : Type := String × MethodName × ByteArray × Nat × Option FieldType
abbrev kv_Q : Type := Option Value → Nat → kv_SM → kv_IM → Prop
abbrev kI (n : Nat) : kv_Sh := .inl (0, n)
abbrev kZ (n : Nat) : kv_Sh := .inl (1, n)
abbrev kA (c n : Nat) (r : Nat → Option Nat) : kv_Sh := .inr (.inl (c, n, r))
abbrev kO (c : Nat) (r : Nat → Option Nat) : kv_Sh := .inr (.inr (c, r))
def kv_up (I : kv_IM) (a k : Nat) (x : Int32) : kv_IM := fun a' k' => if a' = a then (if k' = k then x else I a' k') else I a' k'
def kv_cp (I : kv_IM) (a0 a1 sp dp n : Nat) : kv_IM := fun a k => if a = a1 then va_cpy (I a0) (I a1) sp dp n k else I a k
def kv_su (S : kv_SM) (a : Nat) (x : kv_Sh) : kv_SM := fun a' => if a' = a then x else S a'
def kv_iu (I : kv_IM) (a : Nat) (f : Nat → Int32) : kv_IM := fun a' => if a' = a then f else I a'
def kv_ru (r : Nat → Option Nat) (k : Nat) (v : Option Nat) : Nat → Option Nat := fun j => if j = k then v else r j
def kv_fs (fl : List Bool) (r : Nat → Option Nat) (f : Nat → Int32) : List Value := (List.range fl.length).map (fun k => if fl.getD k false = true then va_rf (r k) else .int (f k))
def kv_e (cA : Nat → ClassId) (x : kv_Sh) (f : Nat → Int32) : va_E := match x with
  | .inl q => .inl (cA q.1, q.2, .inl f)
  | .inr (.inl q) => .inl (cA (q.1 + 2), q.2.1, .inr (.inr (.inr (.inr q.2.2))))
  | .inr (.inr q) => .inr (q.1, kv_fs (kv_flags q.1) q.2 f)
def kv_ws (b n : Nat) (cA : Nat → ClassId) (S : kv_SM) (I : kv_IM) : va_W := (List.range n).map (fun i => (b + i, kv_e cA (S (b + i)) (I (b + i))))
def kv_R (b n : Nat) (D : va_G) (cA : Nat → ClassId) (S : kv_SM) (I : kv_IM) (H : Heap) : Prop := H.size = b + n ∧ va_P D vwCl (kv_ws b n cA S I) H ∧ ∀ a, (a < b ∨ b + n ≤ a) → S a = .inl (0, 0)
theorem kv_ws_get {b n : Nat} {cA : Nat → ClassId} {S : kv_SM} {I : kv_IM} {a : Nat} (h1 : b ≤ a) (h2 : a < b + n) : (kv_ws b n cA S I)[a - b]? = some (a, kv_e cA (S a) (I a)) := by
  unfold kv_ws
  rw [List.getElem?_map, List.getElem?_range (by omega)]
  show some (b + (a - b), _) = _
  rw [show b + (a - b) = a by omega]
theorem kv_ws_mem {b n : Nat} {cA : Nat → ClassId} {S : kv_SM} {I : kv_IM} {k : Nat} {q : Nat × va_E} (h : (kv_ws b n cA S I)[k]? = some q) : k < n ∧ q = (b + k, kv_e cA (S (b + k)) (I (b + k))) := by
  unfold kv_ws at h
  rw [List.getElem?_map] at h
  by_cases hk : k < n
  · rw [List.getElem?_range hk] at h
    exact ⟨hk, (Option.some.inj h).symm⟩
  · rw [List.getElem?_eq_none (by simp; omega)] at h
    cases h
theorem kv_ws_D {b n : Nat} {cA : Nat → ClassId} {S : kv_SM} {I : kv_IM} : va_D (fun q => b ≤ q) (kv_ws b n cA S I) := by
  refine ⟨fun i j p q hi hj hpq => ?_, fun k q hk => ?_⟩
  · obtain ⟨-, rfl⟩ := kv_ws_mem hi
    obtain ⟨-, rfl⟩ := kv_ws_mem hj
    simp only at hpq
    omega
  · obtain ⟨-, rfl⟩ := kv_ws_mem hk
    show b ≤ b + k
    omega
theorem kv_ws_set {b n : Nat} {cA : Nat → ClassId} {S S' : kv_SM} {I I' : kv_IM} {a : Nat} {e : va_E} (h1 : b ≤ a) (h2 : a < b + n) (he : kv_e cA (S' a) (I' a) = e) (ho : ∀ q, q ≠ a → S' q = S q ∧ I' q = I q) : (kv_ws b n cA S I).set (a - b) (a, e) = kv_ws b n cA S' I' := by
  apply List.ext_getElem?
  intro k
  by_cases hk : k = a - b
  · subst hk
    rw [kv_ws_get h1 h2, he, List.getElem?_set_self]
    unfold kv_ws
    simp
    omega
  · rw [List.getElem?_set_ne (fun q => hk q.symm)]
    unfold kv_ws
    rw [List.getElem?_map, List.getElem?_map]
    by_cases hn : k < n
    · rw [List.getElem?_range hn]
      show some (b + k, _) = some (b + k, _)
      obtain ⟨e1, e2⟩ := ho (b + k) (by omega)
      rw [e1, e2]
    · rw [List.getElem?_eq_none (by simp; omega)]
      rfl
theorem kv_R.at {b n : Nat} {D : va_G} {cA : Nat → ClassId} {S : kv_SM} {I : kv_IM} {H : Heap} (h : kv_R b n D cA S I H) {a : Nat} (h1 : b ≤ a) (h2 : a < b + n) : va_at D vwCl (a, kv_e cA (S a) (I a)) H := h.2.1 (a - b) _ (kv_ws_get h1 h2)
theorem kv_R.inO {b n : Nat} {D : va_G} {cA : Nat → ClassId} {S : kv_SM} {I : kv_IM} {H : Heap} (h : kv_R b n D cA S I H) {a c : Nat} {r : Nat → Option Nat} (hS : S a = kO c r) : b ≤ a ∧ a < b + n := by
  by_cases q : a < b ∨ b + n ≤ a
  · rw [h.2.2 a q] at hS; cases hS
  · omega
theorem kv_R.inA {b n : Nat} {D : va_G} {cA : Nat → ClassId} {S : kv_SM} {I : kv_IM} {H : Heap} (h : kv_R b n D cA S I H) {a c k : Nat} {r : Nat → Option Nat} (hS : S a = kA c k r) : b ≤ a ∧ a < b + n := by
  by_cases q : a < b ∨ b + n ≤ a
  · rw [h.2.2 a q] at hS; cases hS
  · omega
theorem kv_R.inI {b n : Nat} {D : va_G} {cA : Nat → ClassId} {S : kv_SM} {I : kv_IM} {H : Heap} (h : kv_R b n D cA S I H) {a t k : Nat} (hS : S a = .inl (t, k)) (hk : 0 < k) : b ≤ a ∧ a < b + n := by
  by_cases q : a < b ∨ b + n ≤ a
  · rw [h.2.2 a q] at hS; cases hS; omega
  · omega
theorem kv_R.set {b n : Nat} {D : va_G} {cA : Nat → ClassId} {S S' : kv_SM} {I I' : kv_IM} {H H1 : Heap} (h : kv_R b n D cA S I H) {a : Nat} {e : va_E} (h1 : b ≤ a) (h2 : a < b + n) (hz : H1.size = H.size) (hP : va_P D vwCl ((kv_ws b n cA S I).set (a - b) (a, e)) H1) (he : kv_e cA (S' a) (I' a) = e) (ho : ∀ q, q ≠ a → S' q = S q ∧ I' q = I q) : kv_R b n D cA S' I' H1 := by
  refine ⟨hz.trans h.1, ?_, fun q hq => ?_⟩
  · rw [kv_ws_set h1 h2 he ho] at hP
    exact hP
  · rw [(ho q (by omega)).1]
    exact h.2.2 q hq
theorem kv_fs_get {fl : List Bool} {r : Nat → Option Nat} {f : Nat → Int32} {k : Nat} {t : Bool} (h : fl[k]? = some t) : (kv_fs fl r f)[k]? = some (if t = true then va_rf (r k) else .int (f k)) := by
  have hk : k < fl.length := (List.getElem?_eq_some_iff.mp h).1
  unfold kv_fs
  rw [List.getElem?_map, List.getElem?_range hk]
  simp [List.getD_eq_getElem?_getD, h]
theorem kv_fs_len {fl : List Bool} {r : Nat → Option Nat} {f : Nat → Int32} : (kv_fs fl r f).length = fl.length := by simp [kv_fs]
theorem kv_fs_setI {fl : List Bool} {r : Nat → Option Nat} {f f' : Nat → Int32} {k : Nat} {x : Int32} (h : fl[k]? = some false) (hx : f' k = x) (ho : ∀ j, j ≠ k → f' j = f j) : kv_fs fl r f' = (kv_fs fl r f).set k (.int x) := by
  apply List.ext_getElem?
  intro j
  have hk : k < fl.length := (List.getElem?_eq_some_iff.mp h).1
  by_cases hj : j = k
  · subst hj
    rw [kv_fs_get h, List.getElem?_set_self (by rw [kv_fs_len]; exact hk)]
    simp [hx]
  · rw [List.getElem?_set_ne (fun q => hj q.symm)]
    unfold kv_fs
    rw [List.getElem?_map, List.getElem?_map]
    by_cases hl : j < fl.length
    · rw [List.getElem?_range hl]
      simp [ho j hj]
    · rw [List.getElem?_eq_none (by simp; omega)]
      rfl
theorem kv_fs_setR {fl : List Bool} {r r' : Nat → Option Nat} {f : Nat → Int32} {k : Nat} {x : Option Nat} (h : fl[k]? = some true) (hx : r' k = x) (ho : ∀ j, j ≠ k → r' j = r j) : kv_fs fl r' f = (kv_fs fl r f).set k (va_rf x) := by
  apply List.ext_getElem?
  intro j
  have hk : k < fl.length := (List.getElem?_eq_some_iff.mp h).1
  by_cases hj : j = k
  · subst hj
    rw [kv_fs_get h, List.getElem?_set_self (by rw [kv_fs_len]; exact hk)]
    simp [hx]
  · rw [List.getElem?_set_ne (fun q => hj q.symm)]
    unfold kv_fs
    rw [List.getElem?_map, List.getElem?_map]
    by_cases hl : j < fl.length
    · rw [List.getElem?_range hl]
      simp [ho j hj]
    · rw [List.getElem?_eq_none (by simp; omega)]
      rfl
def kv_isN : Cond → Bool
  | .fieldLinkNest _ _ _ _ _ _ => true
  | .methodLinkNest _ _ _ _ => true
  | _ => false
def kv_tb : List Cond := lw_tbl.filter goodWord
def kv_nw : List Cond := lw_tbl.filter kv_isN
theorem kv_tb_in {w : Cond} (h : w ∈ lw_tbl) (hg : goodWord w = true) : w ∈ kv_tb := List.mem_filter.mpr ⟨h, hg⟩
theorem kv_nw_in {w : Cond} (h : w ∈ lw_tbl) (hg : kv_isN w = true) : w ∈ kv_nw := List.mem_filter.mpr ⟨h, hg⟩
theorem kv_tb_good : GoodIn kv_tb kv_tb := fun w h => ⟨h, good_of_word (List.mem_filter.mp h).2⟩
def kv_wd (y : kv_M) : List Cond := .code y.2.1 y.2.2.1 y.2.2.2.1 y.2.2.2.2 :: kv_tb
def kv_rm (d kc ks : Nat) : Room := { frames := d, cells := kc, slots := ks, locals := 36 * d }
def kv_ret (y : kv_M) (v : Option Value) (pc : Nat) : Prop := match v with
  | none => decode y.2.2.1 pc = .ok (.return_, 1) ∧ y.2.2.2.2 = none
  | some (.int x) => decode y.2.2.1 pc = .ok (.ireturn, 1) ∧ ∃ ty, y.2.2.2.2 = some ty ∧ narrow ty (.int x) = .int x
  | some (.long _) => decode y.2.2.1 pc = .ok (.lreturn, 1) ∧ y.2.2.2.2 = some .long
  | some (.ref _) => decode y.2.2.1 pc = .ok (.areturn, 1) ∧ ((∃ nm, y.2.2.2.2 = some (.object nm)) ∨ ∃ t, y.2.2.2.2 = some (.array t))
  | _ => False
def kv_N (s : State) : Prop := (∀ w ∈ kv_nw, va_Nw w s) ∧ ∀ C ∈ kv_ao, va_AO C s
def kv_C (y : kv_M) (d : Nat) (B : kv_B) (Q : kv_Q) (p : Program) (l : Launch) (e : Env) (R : Room) (s : State) (m : MethodId) (args : Array Value) (below : List Frame) (meth : Method) (c : Code) (D : va_G) (cA : Nat → ClassId) (Z : State → Prop) (mc ms : Nat) : Prop :=
  p.tables.exec = Jvm.exec ∧ c.code = y.2.2.1 ∧ c.maxLocals = y.2.2.2.1 ∧ s.vm.findClass y.1 = some m.cls ∧ (∀ w ∈ kv_tb, w.before args s = true) ∧ kv_N s ∧ va_K D vwCl (kv_tys cA) s ∧ (d ≤ R.frames ∧ 36 * d ≤ R.locals ∧ R.cells = mc ∧ R.slots = ms) ∧ (y.2.1.name = "<init>" → meth.name = "<init>") ∧ (B.2.1 < B.1 ∧ va_X B.2.1 B.2.2.1 B.2.2.2 s s.heap) ∧
  ∀ (H : Heap) (locs : List Loc) (cells slots n : Nat) (S : kv_SM) (I : kv_IM) (v : Option Value) (pc : Nat) (ls : Array Slot), kv_R B.1 n D cA S I H → H[B.2.1]? = s.heap[B.2.1]? → (∀ q ∈ locs, B.1 ≤ q.base) → cells ≤ mc → slots ≤ ms → Q v n S I → kv_ret y v pc → W p l e R s m args below meth c H locs cells slots Z (F0 m pc ls v.toList)
def kv_V (y : kv_M) (d : Nat) (B : kv_B) (Q : kv_Q) (kc ks n : Nat) (S : kv_SM) (I : kv_IM) (pc : Nat) (L : List (Nat × Value)) (st : List Value) : Prop :=
  ∀ (p : Program) (l : Launch) (e : Env) (R : Room) (s : State) (m : MethodId) (args : Array Value) (below : List Frame) (meth : Method) (c : Code) (D : va_G) (cA : Nat → ClassId) (Z : State → Prop) (mc ms : Nat), kv_C y d B Q p l e R s m args below meth c D cA Z mc ms →
  ∀ (H : Heap) (locs : List Loc) (cells slots : Nat) (ls : Array Slot), kv_R B.1 n D cA S I H → H[B.2.1]? = s.heap[B.2.1]? → (∀ q ∈ locs, B.1 ≤ q.base) → cells + kc ≤ mc → slots + ks ≤ ms → lv_has ls y.2.2.2.1 L → W p l e R s m args below meth c H locs cells slots Z (F0 m pc ls st)
def kv_Pc (as : List Value) (B : kv_B) (n : Nat) (S : kv_SM) (I : kv_IM) (D : va_G) (cA : Nat → ClassId) : Array Value → State → Prop := fun a U => a = as.toArray ∧ va_K D vwCl (kv_tys cA) U ∧ kv_R B.1 n D cA S I U.heap ∧ kv_N U ∧ B.2.1 < B.1 ∧ va_X B.2.1 B.2.2.1 B.2.2.2 U U.heap
def kv_Qc (B : kv_B) (Q : kv_Q) (D : va_G) (cA : Nat → ClassId) : Array Value → State → Outcome → State → Prop := fun _ st o t => ∃ (v : Option Value) (n : Nat) (S : kv_SM) (I : kv_IM), o = .returned v ∧ Q v n S I ∧ kv_R B.1 n D cA S I t.heap ∧ t.heap[B.2.1]? = st.heap[B.2.1]?
def kv_T (y : kv_M) (d kc ks : Nat) (B : kv_B) (as : List Value) (n : Nat) (S : kv_SM) (I : kv_IM) (Q : kv_Q) : Prop :=
  ∀ (l : Launch) (D : va_G) (cA : Nat → ClassId), Met l y.2.1 (kv_wd y) (kv_rm d kc ks) (kv_Pc as B n S I D cA) (kv_Qc B Q D cA) kc ks (fun q => B.1 ≤ q)
theorem kv_nw_onTables {w : Cond} (h : w ∈ kv_nw) : w.onTables = true := by
  have h1 := (List.mem_filter.mp h).2
  cases w <;> first | rfl | (simp [kv_isN] at h1)
theorem kv_nw_warm {w : Cond} (h : w ∈ kv_nw) {s U : State} (hW : s.WarmedH U.vm) (hw : va_Nw w s) : va_Nw w U := by
  have h1 := (List.mem_filter.mp h).2
  cases w <;> first | exact va_Nw.warmF hW hw | exact va_Nw.warmM hW hw | (simp [kv_isN] at h1)
theorem kv_Pc_blind {as : List Value} {B : kv_B} {n : Nat} {S : kv_SM} {I : kv_IM} {D : va_G} {cA : Nat → ClassId} : FrameBlind (kv_Pc as B n S I D cA) := by
  intro a U g mk q
  obtain ⟨q0, q1, q2, q3, q4, q5⟩ := q
  exact ⟨q0, va_K.moved (u := U) (U := U.calling g mk a) (Vm.Alike.refl U.vm) q1, q2, ⟨fun w hw => va_Nw.same (u := U) (U := U.calling g mk a) (kv_nw_onTables hw) rfl (q3.1 w hw), fun C hC => va_AO.moved (u := U) (U := U.calling g mk a) (Vm.Alike.refl U.vm) (q3.2 C hC)⟩, q4, va_X.moved (u := U) (U := U.calling g mk a) (Vm.Alike.refl U.vm) q5⟩
theorem kv_Pc_at {as : List Value} {B : kv_B} {n : Nat} {S : kv_SM} {I : kv_IM} {D : va_G} {cA : Nat → ClassId} {s U : State} {H : Heap} (hU : U.heap = H) (hW : s.WarmedH U.vm) (hK : va_K D vwCl (kv_tys cA) s) (hR : kv_R B.1 n D cA S I H) (hN : kv_N s) (hb : B.2.1 < B.1) (hX : va_X B.2.1 B.2.2.1 B.2.2.2 s s.heap) (hH : H[B.2.1]? = s.heap[B.2.1]?) : kv_Pc as B n S I D cA as.toArray U := by
  refine ⟨rfl, va_K.moved hW.alike hK, by rw [hU]; exact hR, ⟨fun w hw => kv_nw_warm hw hW (hN.1 w hw), fun C hC => va_AO.moved hW.alike (hN.2 C hC)⟩, hb, ?_⟩
  rw [hU]
  exact (hX.kept hH).moved hW.alike
theorem kv_T.of {y : kv_M} {d kc ks : Nat} {B : kv_B} {as : List Value} {n : Nat} {S : kv_SM} {I : kv_IM} {Q : kv_Q} (hy : plainName y.2.1.cls = true) (hcl : y.2.1.cls = y.1) (hL : (lg_sl as).length ≤ y.2.2.2.1)
    (hV : kv_V y d B Q kc ks n S I 0 (lv_args 0 as) []) : kv_T y d kc ks B as n S I Q := by
  intro l D cA
  refine Met.ofW (cc := y.2.2.1) (maxL := y.2.2.2.1) (ret := y.2.2.2.2) hy rfl ?_
  intro p e s m args below meth c s₁ Bd hml hv
  obtain ⟨rfl, hK, hR, hN, hb, hX⟩ := hv
  have hts := atoms_spec (ws := kv_wd y) Bd.pre
  have hown : s.vm.findClass y.1 = some m.cls := by rw [← hcl]; exact findClass_of_methodNamed Bd.named
  have hlocks := Bd.notSynchronized
  have hr := Bd.returns
  rw [lg_entry_eq]
  have hl := lv_entry as hL
  refine hV p l e (kv_rm d kc ks) s m as.toArray below meth c D cA _ kc ks ⟨Bd.exec, Bd.bytes, hml, hown, fun w hw => hts w (List.mem_cons_of_mem _ hw), hN, hK, ⟨Nat.le_refl _, Nat.le_refl _, rfl, rfl⟩, fun hi => (name_of_methodNamed Bd.named Bd.method).1.trans hi, ⟨hb, hX⟩, ?_⟩ s.heap [] 0 0 _ hR rfl (fun q h => by cases h) (by omega) (by omega) hl
  intro H locs cells slots n' S' I' v pc ls hR' hH' hq hc hs hQ hret
  refine W.widen (k := kc) (n := ks) hc hs ?_
  have hx := Bd.exec
  have hbb := Bd.bytes
  match v, hret, hQ with
  | none, ⟨hd, hn⟩, hQ => exact W.vret hx hbb (hr.trans hn) (fun t ht hW => ⟨_, _, _, _, rfl, hQ, by rw [ht]; exact hR', by rw [ht]; exact hH'⟩) hq hd
  | some (.int x), ⟨hd, ty, hn, hnar⟩, hQ => exact W.zret hx hbb (hr.trans hn) hnar (fun t ht hW => ⟨_, _, _, _, rfl, hQ, by rw [ht]; exact hR', by rw [ht]; exact hH'⟩) hq hd
  | some (.long x), ⟨hd, hn⟩, hQ => exact W.lret hx hbb (hr.trans hn) (fun t ht hW => ⟨_, _, _, _, rfl, hQ, by rw [ht]; exact hR', by rw [ht]; exact hH'⟩) hq hd
  | some (.ref x), ⟨hd, hn⟩, hQ =>
    rcases hn with ⟨nm, hn⟩ | ⟨t, hn⟩
    · exact W.aret hx hbb (hr.trans hn) (Or.inl ⟨nm, rfl⟩) (Or.inr ⟨x, rfl⟩) (fun t ht hW => ⟨_, _, _, _, rfl, hQ, by rw [ht]; exact hR', by rw [ht]; exact hH'⟩) hq hd
    · exact W.aret hx hbb (hr.trans hn) (Or.inr ⟨t, rfl⟩) (Or.inr ⟨x, rfl⟩) (fun t ht hW => ⟨_, _, _, _, rfl, hQ, by rw [ht]; exact hR', by rw [ht]; exact hH'⟩) hq hd
theorem kv_T.mono {y : kv_M} {d kc ks : Nat} {B : kv_B} {as : List Value} {n : Nat} {S : kv_SM} {I : kv_IM} {Q Q' : kv_Q} (h : kv_T y d kc ks B as n S I Q) (hq : ∀ v n S I, Q v n S I → Q' v n S I) : kv_T y d kc ks B as n S I Q' := by
  intro l D cA p e ha hc hk s m args below hf happ hP hK
  obtain ⟨k, o, h1, h2, h3, ⟨v, n', S', I', e1, e2, e3⟩, h4⟩ := h l D cA p e ha hc hk s m args below hf happ hP hK
  exact ⟨k, o, h1, h2, h3, ⟨v, n', S', I', e1, hq _ _ _ _ e2, e3⟩, h4⟩
section KVV
variable {y : kv_M} {d : Nat} {B : kv_B} {Q : kv_Q} {kc ks n : Nat} {S : kv_SM} {I : kv_IM} {pc : Nat} {L : List (Nat × Value)} {st : List Value}
theorem kv_end {v : Option Value} (hq : Q v n S I) (hr : kv_ret y v pc) : kv_V y d B Q kc ks n S I pc L v.toList := by
  intro p l e R s m args below meth c D cA Z mc ms C H locs cells slots ls hR hH hq' hc hs hl
  exact C.2.2.2.2.2.2.2.2.2.2 H locs cells slots n S I v pc ls hR hH hq' (by omega) (by omega) hq hr
theorem kv_loc {L' : List (Nat × Value)} (ks' : List Nat) (h : lv_pick L ks' = L') (k : kv_V y d B Q kc ks n S I pc L' st) : kv_V y d B Q kc ks n S I pc L st := by
  intro p l e R s m args below meth c D cA Z mc ms C H locs cells slots ls hR hH hq' hc hs hl
  exact k p l e R s m args below meth c D cA Z mc ms C H locs cells slots ls hR hH hq' hc hs (lv_sub hl ks' h)
theorem kv_less {kc' ks' : Nat} (h1 : kc' ≤ kc) (h2 : ks' ≤ ks) (k : kv_V y d B Q kc' ks' n S I pc L st) : kv_V y d B Q kc ks n S I pc L st := by
  intro p l e R s m args below meth c D cA Z mc ms C H locs cells slots ls hR hH hq' hc hs hl
  exact k p l e R s m args below meth c D cA Z mc ms C H locs cells slots ls hR hH hq' (by omega) (by omega) hl
end KVV
end
section
theorem kv_lkm {i : Nat} {v : Value} : ∀ {L : List (Nat × Value)}, L.lookup i = some v → (i, v) ∈ L
  | [], h => by cases h
  | (j, w) :: L, h => by
    rw [List.lookup_cons] at h
    by_cases hj : i = j
    · subst hj
      simp at h
      subst h
      exact List.mem_cons_self
    · have hb : (i == j) = false := by simp [hj]
      rw [hb] at h
      exact List.mem_cons_of_mem _ (kv_lkm h)
theorem kv_lk {ls : Array Slot} {nL i : Nat} {v : Value} {L : List (Nat × Value)} (hl : lv_has ls nL L) (h : L.lookup i = some v) : ls[i]? = some (.val v) := hl.2.2 (i, v) (kv_lkm h)
section KVR
variable {y : kv_M} {d : Nat} {B : kv_B} {Q : kv_Q} {kc ks n : Nat} {S : kv_SM} {I : kv_IM} {pc : Nat} {L : List (Nat × Value)} {st : List Value}
theorem kv_iconst {i : Int} {v : Int32} (hd : decode y.2.2.1 pc = .ok (.iconst i, 1)) (hv : Int32.ofInt i = v) (k : kv_V y d B Q kc ks n S I (pc + 1) L (.int v :: st)) : kv_V y d B Q kc ks n S I (pc) L (st) := by
  intro p l e R s m args below meth c D cA Z mc ms C H locs cells slots ls hR hH hq' hc hs hl
  exact lv_iconst C.1 C.2.1 hd hv (k p l e R s m args below meth c D cA Z mc ms C H locs cells slots ls hR hH hq' hc hs hl)
theorem kv_bipush {i : Int} {v : Int32} (hd : decode y.2.2.1 pc = .ok (.bipush i, 2)) (hv : (Int8.ofInt i).toInt32 = v) (k : kv_V y d B Q kc ks n S I (pc + 2) L (.int v :: st)) : kv_V y d B Q kc ks n S I (pc) L (st) := by
  intro p l e R s m args below meth c D cA Z mc ms C H locs cells slots ls hR hH hq' hc hs hl
  exact lv_bipush C.1 C.2.1 hd hv (k p l e R s m args below meth c D cA Z mc ms C H locs cells slots ls hR hH hq' hc hs hl)
theorem kv_sipush {i : Int} {v : Int32} (hd : decode y.2.2.1 pc = .ok (.sipush i, 3)) (hv : (Int16.ofInt i).toInt32 = v) (k : kv_V y d B Q kc ks n S I (pc + 3) L (.int v :: st)) : kv_V y d B Q kc ks n S I (pc) L (st) := by
  intro p l e R s m args below meth c D cA Z mc ms C H locs cells slots ls hR hH hq' hc hs hl
  exact lv_sipush C.1 C.2.1 hd hv (k p l e R s m args below meth c D cA Z mc ms C H locs cells slots ls hR hH hq' hc hs hl)
theorem kv_lconst {i : Fin 2} {v : Int64} (hd : decode y.2.2.1 pc = .ok (.lconst i, 1)) (hv : Int64.ofNat (i : Nat) = v) (k : kv_V y d B Q kc ks n S I (pc + 1) L (.long v :: st)) : kv_V y d B Q kc ks n S I (pc) L (st) := by
  intro p l e R s m args below meth c D cA Z mc ms C H locs cells slots ls hR hH hq' hc hs hl
  exact lv_lconst C.1 C.2.1 hd hv (k p l e R s m args below meth c D cA Z mc ms C H locs cells slots ls hR hH hq' hc hs hl)
theorem kv_iadd {x z : Int32} (hd : decode y.2.2.1 pc = .ok (.iadd, 1))  (k : kv_V y d B Q kc ks n S I (pc + 1) L (.int (x + z) :: st)) : kv_V y d B Q kc ks n S I (pc) L (.int z :: .int x :: st) := by
  intro p l e R s m args below meth c D cA Z mc ms C H locs cells slots ls hR hH hq' hc hs hl
  exact lv_iadd C.1 C.2.1 hd  (k p l e R s m args below meth c D cA Z mc ms C H locs cells slots ls hR hH hq' hc hs hl)
theorem kv_isub {x z : Int32} (hd : decode y.2.2.1 pc = .ok (.isub, 1))  (k : kv_V y d B Q kc ks n S I (pc + 1) L (.int (x - z) :: st)) : kv_V y d B Q kc ks n S I (pc) L (.int z :: .int x :: st) := by
  intro p l e R s m args below meth c D cA Z mc ms C H locs cells slots ls hR hH hq' hc hs hl
  exact lv_isub C.1 C.2.1 hd  (k p l e R s m args below meth c D cA Z mc ms C H locs cells slots ls hR hH hq' hc hs hl)
theorem kv_imul {x z : Int32} (hd : decode y.2.2.1 pc = .ok (.imul, 1))  (k : kv_V y d B Q kc ks n S I (pc + 1) L (.int (x * z) :: st)) : kv_V y d B Q kc ks n S I (pc) L (.int z :: .int x :: st) := by
  intro p l e R s m args below meth c D cA Z mc ms C H locs cells slots ls hR hH hq' hc hs hl
  exact lv_imul C.1 C.2.1 hd  (k p l e R s m args below meth c D cA Z mc ms C H locs cells slots ls hR hH hq' hc hs hl)
theorem kv_iand {x z : Int32} (hd : decode y.2.2.1 pc = .ok (.iand, 1))  (k : kv_V y d B Q kc ks n S I (pc + 1) L (.int (x &&& z) :: st)) : kv_V y d B Q kc ks n S I (pc) L (.int z :: .int x :: st) := by
  intro p l e R s m args below meth c D cA Z mc ms C H locs cells slots ls hR hH hq' hc hs hl
  exact lv_iand C.1 C.2.1 hd  (k p l e R s m args below meth c D cA Z mc ms C H locs cells slots ls hR hH hq' hc hs hl)
theorem kv_ior {x z : Int32} (hd : decode y.2.2.1 pc = .ok (.ior, 1))  (k : kv_V y d B Q kc ks n S I (pc + 1) L (.int (x ||| z) :: st)) : kv_V y d B Q kc ks n S I (pc) L (.int z :: .int x :: st) := by
  intro p l e R s m args below meth c D cA Z mc ms C H locs cells slots ls hR hH hq' hc hs hl
  exact lv_ior C.1 C.2.1 hd  (k p l e R s m args below meth c D cA Z mc ms C H locs cells slots ls hR hH hq' hc hs hl)
theorem kv_ixor {x z : Int32} (hd : decode y.2.2.1 pc = .ok (.ixor, 1))  (k : kv_V y d B Q kc ks n S I (pc + 1) L (.int (x ^^^ z) :: st)) : kv_V y d B Q kc ks n S I (pc) L (.int z :: .int x :: st) := by
  intro p l e R s m args below meth c D cA Z mc ms C H locs cells slots ls hR hH hq' hc hs hl
  exact lv_ixor C.1 C.2.1 hd  (k p l e R s m args below meth c D cA Z mc ms C H locs cells slots ls hR hH hq' hc hs hl)
theorem kv_ishl {x z : Int32} (hd : decode y.2.2.1 pc = .ok (.ishl, 1))  (k : kv_V y d B Q kc ks n S I (pc + 1) L (.int (x <<< (z &&& 31)) :: st)) : kv_V y d B Q kc ks n S I (pc) L (.int z :: .int x :: st) := by
  intro p l e R s m args below meth c D cA Z mc ms C H locs cells slots ls hR hH hq' hc hs hl
  exact lv_ishl C.1 C.2.1 hd  (k p l e R s m args below meth c D cA Z mc ms C H locs cells slots ls hR hH hq' hc hs hl)
theorem kv_ishr {x z : Int32} (hd : decode y.2.2.1 pc = .ok (.ishr, 1))  (k : kv_V y d B Q kc ks n S I (pc + 1) L (.int (x >>> (z &&& 31)) :: st)) : kv_V y d B Q kc ks n S I (pc) L (.int z :: .int x :: st) := by
  intro p l e R s m args below meth c D cA Z mc ms C H locs cells slots ls hR hH hq' hc hs hl
  exact lv_ishr C.1 C.2.1 hd  (k p l e R s m args below meth c D cA Z mc ms C H locs cells slots ls hR hH hq' hc hs hl)
theorem kv_iushr {x z : Int32} (hd : decode y.2.2.1 pc = .ok (.iushr, 1))  (k : kv_V y d B Q kc ks n S I (pc + 1) L (.int ((x.toUInt32 >>> (z.toUInt32 &&& Int32.toUInt32 31)).toInt32) :: st)) : kv_V y d B Q kc ks n S I (pc) L (.int z :: .int x :: st) := by
  intro p l e R s m args below meth c D cA Z mc ms C H locs cells slots ls hR hH hq' hc hs hl
  exact lv_iushr C.1 C.2.1 hd rfl (k p l e R s m args below meth c D cA Z mc ms C H locs cells slots ls hR hH hq' hc hs hl)
theorem kv_idiv {x z : Int32} (hd : decode y.2.2.1 pc = .ok (.idiv, 1)) (hne : ¬ z = 0) (k : kv_V y d B Q kc ks n S I (pc + 1) L (.int (x / z) :: st)) : kv_V y d B Q kc ks n S I (pc) L (.int z :: .int x :: st) := by
  intro p l e R s m args below meth c D cA Z mc ms C H locs cells slots ls hR hH hq' hc hs hl
  exact lv_idiv C.1 C.2.1 hd hne (k p l e R s m args below meth c D cA Z mc ms C H locs cells slots ls hR hH hq' hc hs hl)
theorem kv_irem {x z : Int32} (hd : decode y.2.2.1 pc = .ok (.irem, 1)) (hne : ¬ z = 0) (k : kv_V y d B Q kc ks n S I (pc + 1) L (.int (x - x / z * z) :: st)) : kv_V y d B Q kc ks n S I (pc) L (.int z :: .int x :: st) := by
  intro p l e R s m args below meth c D cA Z mc ms C H locs cells slots ls hR hH hq' hc hs hl
  exact lv_irem C.1 C.2.1 hd hne (k p l e R s m args below meth c D cA Z mc ms C H locs cells slots ls hR hH hq' hc hs hl)
theorem kv_ineg {x : Int32} (hd : decode y.2.2.1 pc = .ok (.ineg, 1))  (k : kv_V y d B Q kc ks n S I (pc + 1) L (.int (-x) :: st)) : kv_V y d B Q kc ks n S I (pc) L (.int x :: st) := by
  intro p l e R s m args below meth c D cA Z mc ms C H locs cells slots ls hR hH hq' hc hs hl
  exact lv_ineg C.1 C.2.1 hd  (k p l e R s m args below meth c D cA Z mc ms C H locs cells slots ls hR hH hq' hc hs hl)
theorem kv_ladd {x z : Int64} (hd : decode y.2.2.1 pc = .ok (.ladd, 1))  (k : kv_V y d B Q kc ks n S I (pc + 1) L (.long (x + z) :: st)) : kv_V y d B Q kc ks n S I (pc) L (.long z :: .long x :: st) := by
  intro p l e R s m args below meth c D cA Z mc ms C H locs cells slots ls hR hH hq' hc hs hl
  exact lv_ladd C.1 C.2.1 hd  (k p l e R s m args below meth c D cA Z mc ms C H locs cells slots ls hR hH hq' hc hs hl)
theorem kv_lsub {x z : Int64} (hd : decode y.2.2.1 pc = .ok (.lsub, 1))  (k : kv_V y d B Q kc ks n S I (pc + 1) L (.long (x - z) :: st)) : kv_V y d B Q kc ks n S I (pc) L (.long z :: .long x :: st) := by
  intro p l e R s m args below meth c D cA Z mc ms C H locs cells slots ls hR hH hq' hc hs hl
  exact lv_lsub C.1 C.2.1 hd  (k p l e R s m args below meth c D cA Z mc ms C H locs cells slots ls hR hH hq' hc hs hl)
theorem kv_lmul {x z : Int64} (hd : decode y.2.2.1 pc = .ok (.lmul, 1))  (k : kv_V y d B Q kc ks n S I (pc + 1) L (.long (x * z) :: st)) : kv_V y d B Q kc ks n S I (pc) L (.long z :: .long x :: st) := by
  intro p l e R s m args below meth c D cA Z mc ms C H locs cells slots ls hR hH hq' hc hs hl
  exact lv_lmul C.1 C.2.1 hd  (k p l e R s m args below meth c D cA Z mc ms C H locs cells slots ls hR hH hq' hc hs hl)
theorem kv_land {x z : Int64} (hd : decode y.2.2.1 pc = .ok (.land, 1))  (k : kv_V y d B Q kc ks n S I (pc + 1) L (.long (x &&& z) :: st)) : kv_V y d B Q kc ks n S I (pc) L (.long z :: .long x :: st) := by
  intro p l e R s m args below meth c D cA Z mc ms C H locs cells slots ls hR hH hq' hc hs hl
  exact lv_land C.1 C.2.1 hd  (k p l e R s m args below meth c D cA Z mc ms C H locs cells slots ls hR hH hq' hc hs hl)
theorem kv_lor {x z : Int64} (hd : decode y.2.2.1 pc = .ok (.lor, 1))  (k : kv_V y d B Q kc ks n S I (pc + 1) L (.long (x ||| z) :: st)) : kv_V y d B Q kc ks n S I (pc) L (.long z :: .long x :: st) := by
  intro p l e R s m args below meth c D cA Z mc ms C H locs cells slots ls hR hH hq' hc hs hl
  exact lv_lor C.1 C.2.1 hd  (k p l e R s m args below meth c D cA Z mc ms C H locs cells slots ls hR hH hq' hc hs hl)
theorem kv_lxor {x z : Int64} (hd : decode y.2.2.1 pc = .ok (.lxor, 1))  (k : kv_V y d B Q kc ks n S I (pc + 1) L (.long (x ^^^ z) :: st)) : kv_V y d B Q kc ks n S I (pc) L (.long z :: .long x :: st) := by
  intro p l e R s m args below meth c D cA Z mc ms C H locs cells slots ls hR hH hq' hc hs hl
  exact lv_lxor C.1 C.2.1 hd  (k p l e R s m args below meth c D cA Z mc ms C H locs cells slots ls hR hH hq' hc hs hl)
theorem kv_ldiv {x z : Int64} (hd : decode y.2.2.1 pc = .ok (.ldiv, 1)) (hne : ¬ z = 0) (k : kv_V y d B Q kc ks n S I (pc + 1) L (.long (x / z) :: st)) : kv_V y d B Q kc ks n S I (pc) L (.long z :: .long x :: st) := by
  intro p l e R s m args below meth c D cA Z mc ms C H locs cells slots ls hR hH hq' hc hs hl
  exact lv_ldiv C.1 C.2.1 hd hne (k p l e R s m args below meth c D cA Z mc ms C H locs cells slots ls hR hH hq' hc hs hl)
theorem kv_lrem {x z : Int64} (hd : decode y.2.2.1 pc = .ok (.lrem, 1)) (hne : ¬ z = 0) (k : kv_V y d B Q kc ks n S I (pc + 1) L (.long (x - x / z * z) :: st)) : kv_V y d B Q kc ks n S I (pc) L (.long z :: .long x :: st) := by
  intro p l e R s m args below meth c D cA Z mc ms C H locs cells slots ls hR hH hq' hc hs hl
  exact lv_lrem C.1 C.2.1 hd hne (k p l e R s m args below meth c D cA Z mc ms C H locs cells slots ls hR hH hq' hc hs hl)
theorem kv_lcmp {x z : Int64} (hd : decode y.2.2.1 pc = .ok (.lcmp, 1))  (k : kv_V y d B Q kc ks n S I (pc + 1) L (.int (lg_cmp x z) :: st)) : kv_V y d B Q kc ks n S I (pc) L (.long z :: .long x :: st) := by
  intro p l e R s m args below meth c D cA Z mc ms C H locs cells slots ls hR hH hq' hc hs hl
  exact W.lcmp C.1 C.2.1 hd  (k p l e R s m args below meth c D cA Z mc ms C H locs cells slots ls hR hH hq' hc hs hl)
theorem kv_i2l {x : Int32} (hd : decode y.2.2.1 pc = .ok (.i2l, 1))  (k : kv_V y d B Q kc ks n S I (pc + 1) L (.long x.toInt64 :: st)) : kv_V y d B Q kc ks n S I (pc) L (.int x :: st) := by
  intro p l e R s m args below meth c D cA Z mc ms C H locs cells slots ls hR hH hq' hc hs hl
  exact lv_i2l C.1 C.2.1 hd rfl (k p l e R s m args below meth c D cA Z mc ms C H locs cells slots ls hR hH hq' hc hs hl)
theorem kv_l2i {x : Int64} (hd : decode y.2.2.1 pc = .ok (.l2i, 1))  (k : kv_V y d B Q kc ks n S I (pc + 1) L (.int x.toInt32 :: st)) : kv_V y d B Q kc ks n S I (pc) L (.long x :: st) := by
  intro p l e R s m args below meth c D cA Z mc ms C H locs cells slots ls hR hH hq' hc hs hl
  exact lv_l2i C.1 C.2.1 hd rfl (k p l e R s m args below meth c D cA Z mc ms C H locs cells slots ls hR hH hq' hc hs hl)
theorem kv_lushr {x : Int64} {z : Int32} (hd : decode y.2.2.1 pc = .ok (.lushr, 1))  (k : kv_V y d B Q kc ks n S I (pc + 1) L (.long ((x.toUInt64 >>> (z.toInt64.toUInt64 &&& Int64.toUInt64 63)).toInt64) :: st)) : kv_V y d B Q kc ks n S I (pc) L (.int z :: .long x :: st) := by
  intro p l e R s m args below meth c D cA Z mc ms C H locs cells slots ls hR hH hq' hc hs hl
  exact lv_lushr C.1 C.2.1 hd rfl (k p l e R s m args below meth c D cA Z mc ms C H locs cells slots ls hR hH hq' hc hs hl)
theorem kv_lshl {x : Int64} {z : Int32} (hd : decode y.2.2.1 pc = .ok (.lshl, 1))  (k : kv_V y d B Q kc ks n S I (pc + 1) L (.long (x <<< (z.toInt64 &&& 63)) :: st)) : kv_V y d B Q kc ks n S I (pc) L (.int z :: .long x :: st) := by
  intro p l e R s m args below meth c D cA Z mc ms C H locs cells slots ls hR hH hq' hc hs hl
  exact lv_lshl C.1 C.2.1 hd rfl (k p l e R s m args below meth c D cA Z mc ms C H locs cells slots ls hR hH hq' hc hs hl)
theorem kv_dup {va : Value} (hd : decode y.2.2.1 pc = .ok (.dup, 1)) (hva : va.category = 1) (k : kv_V y d B Q kc ks n S I (pc + 1) L (va :: va :: st)) : kv_V y d B Q kc ks n S I (pc) L (va :: st) := by
  intro p l e R s m args below meth c D cA Z mc ms C H locs cells slots ls hR hH hq' hc hs hl
  exact lv_dup C.1 C.2.1 hd hva (k p l e R s m args below meth c D cA Z mc ms C H locs cells slots ls hR hH hq' hc hs hl)
theorem kv_pop {va : Value} (hd : decode y.2.2.1 pc = .ok (.pop, 1)) (hva : va.category = 1) (k : kv_V y d B Q kc ks n S I (pc + 1) L (st)) : kv_V y d B Q kc ks n S I (pc) L (va :: st) := by
  intro p l e R s m args below meth c D cA Z mc ms C H locs cells slots ls hR hH hq' hc hs hl
  exact lv_pop C.1 C.2.1 hd hva (k p l e R s m args below meth c D cA Z mc ms C H locs cells slots ls hR hH hq' hc hs hl)
theorem kv_dup2 {va vb : Value} (hd : decode y.2.2.1 pc = .ok (.dup2, 1)) (hva : va.category = 1) (hvb : vb.category = 1) (k : kv_V y d B Q kc ks n S I (pc + 1) L (va :: vb :: va :: vb :: st)) : kv_V y d B Q kc ks n S I (pc) L (va :: vb :: st) := by
  intro p l e R s m args below meth c D cA Z mc ms C H locs cells slots ls hR hH hq' hc hs hl
  exact lv_dup2_11 C.1 C.2.1 hd hva hvb (k p l e R s m args below meth c D cA Z mc ms C H locs cells slots ls hR hH hq' hc hs hl)
theorem kv_dup_x1 {va vb : Value} (hd : decode y.2.2.1 pc = .ok (.dup_x1, 1)) (hva : va.category = 1) (hvb : vb.category = 1) (k : kv_V y d B Q kc ks n S I (pc + 1) L (va :: vb :: va :: st)) : kv_V y d B Q kc ks n S I (pc) L (va :: vb :: st) := by
  intro p l e R s m args below meth c D cA Z mc ms C H locs cells slots ls hR hH hq' hc hs hl
  exact lv_dup_x1 C.1 C.2.1 hd hva hvb (k p l e R s m args below meth c D cA Z mc ms C H locs cells slots ls hR hH hq' hc hs hl)
theorem kv_iload_n {i : Fin 4} {x : Int32} (hd : decode y.2.2.1 pc = .ok (.iload_n i, 1)) (hm : L.lookup (i : Nat) = some (.int x)) (k : kv_V y d B Q kc ks n S I (pc + 1) L (.int x :: st)) : kv_V y d B Q kc ks n S I (pc) L (st) := by
  intro p l e R s m args below meth c D cA Z mc ms C H locs cells slots ls hR hH hq' hc hs hl
  exact lv_iload_n C.1 C.2.1 hd rfl (kv_lk hl hm) (k p l e R s m args below meth c D cA Z mc ms C H locs cells slots ls hR hH hq' hc hs hl)
theorem kv_iload {i : Nat} {x : Int32} (hd : decode y.2.2.1 pc = .ok (.iload i, 2)) (hm : L.lookup i = some (.int x)) (k : kv_V y d B Q kc ks n S I (pc + 2) L (.int x :: st)) : kv_V y d B Q kc ks n S I (pc) L (st) := by
  intro p l e R s m args below meth c D cA Z mc ms C H locs cells slots ls hR hH hq' hc hs hl
  exact lv_iload C.1 C.2.1 hd (kv_lk hl hm) (k p l e R s m args below meth c D cA Z mc ms C H locs cells slots ls hR hH hq' hc hs hl)
theorem kv_aload_n {i : Fin 4} {x : Nat} (hd : decode y.2.2.1 pc = .ok (.aload_n i, 1)) (hm : L.lookup (i : Nat) = some (.ref x)) (k : kv_V y d B Q kc ks n S I (pc + 1) L (.ref x :: st)) : kv_V y d B Q kc ks n S I (pc) L (st) := by
  intro p l e R s m args below meth c D cA Z mc ms C H locs cells slots ls hR hH hq' hc hs hl
  exact lv_aload_n C.1 C.2.1 hd rfl (kv_lk hl hm) (k p l e R s m args below meth c D cA Z mc ms C H locs cells slots ls hR hH hq' hc hs hl)
theorem kv_aload {i : Nat} {x : Nat} (hd : decode y.2.2.1 pc = .ok (.aload i, 2)) (hm : L.lookup i = some (.ref x)) (k : kv_V y d B Q kc ks n S I (pc + 2) L (.ref x :: st)) : kv_V y d B Q kc ks n S I (pc) L (st) := by
  intro p l e R s m args below meth c D cA Z mc ms C H locs cells slots ls hR hH hq' hc hs hl
  exact lv_aload C.1 C.2.1 hd (kv_lk hl hm) (k p l e R s m args below meth c D cA Z mc ms C H locs cells slots ls hR hH hq' hc hs hl)
theorem kv_lload_n {i : Fin 4} {x : Int64} (hd : decode y.2.2.1 pc = .ok (.lload_n i, 1)) (hm : L.lookup (i : Nat) = some (.long x)) (k : kv_V y d B Q kc ks n S I (pc + 1) L (.long x :: st)) : kv_V y d B Q kc ks n S I (pc) L (st) := by
  intro p l e R s m args below meth c D cA Z mc ms C H locs cells slots ls hR hH hq' hc hs hl
  exact lv_lload_n C.1 C.2.1 hd rfl (kv_lk hl hm) (k p l e R s m args below meth c D cA Z mc ms C H locs cells slots ls hR hH hq' hc hs hl)
theorem kv_lload {i : Nat} {x : Int64} (hd : decode y.2.2.1 pc = .ok (.lload i, 2)) (hm : L.lookup i = some (.long x)) (k : kv_V y d B Q kc ks n S I (pc + 2) L (.long x :: st)) : kv_V y d B Q kc ks n S I (pc) L (st) := by
  intro p l e R s m args below meth c D cA Z mc ms C H locs cells slots ls hR hH hq' hc hs hl
  exact lv_lload C.1 C.2.1 hd (kv_lk hl hm) (k p l e R s m args below meth c D cA Z mc ms C H locs cells slots ls hR hH hq' hc hs hl)
theorem kv_istore_n {i : Fin 4} {x : Int32} {L' : List (Nat × Value)} (hd : decode y.2.2.1 pc = .ok (.istore_n i, 1)) (hn : (i : Nat) < y.2.2.2.1) (hL : ((i : Nat), Value.int x) :: L.filter (fun q => !(q.1 == (i : Nat)) && !(q.1 + 1 == (i : Nat) && q.2.category == 2)) = L') (k : kv_V y d B Q kc ks n S I (pc + 1) L' (st)) : kv_V y d B Q kc ks n S I (pc) L (.int x :: st) := by
  intro p l e R s m args below meth c D cA Z mc ms C H locs cells slots ls hR hH hq' hc hs hl
  exact lv_istore_n C.1 C.2.1 hd rfl hl hn hL (fun ls' hl' => (k p l e R s m args below meth c D cA Z mc ms C H locs cells slots ls' hR hH hq' hc hs hl'))
theorem kv_istore {i : Nat} {x : Int32} {L' : List (Nat × Value)} (hd : decode y.2.2.1 pc = .ok (.istore i, 2)) (hn : i < y.2.2.2.1) (hL : (i, Value.int x) :: L.filter (fun q => !(q.1 == i) && !(q.1 + 1 == i && q.2.category == 2)) = L') (k : kv_V y d B Q kc ks n S I (pc + 2) L' (st)) : kv_V y d B Q kc ks n S I (pc) L (.int x :: st) := by
  intro p l e R s m args below meth c D cA Z mc ms C H locs cells slots ls hR hH hq' hc hs hl
  exact lv_istore C.1 C.2.1 hd  hl hn hL (fun ls' hl' => (k p l e R s m args below meth c D cA Z mc ms C H locs cells slots ls' hR hH hq' hc hs hl'))
theorem kv_astore_n {i : Fin 4} {x : Nat} {L' : List (Nat × Value)} (hd : decode y.2.2.1 pc = .ok (.astore_n i, 1)) (hn : (i : Nat) < y.2.2.2.1) (hL : ((i : Nat), Value.ref x) :: L.filter (fun q => !(q.1 == (i : Nat)) && !(q.1 + 1 == (i : Nat) && q.2.category == 2)) = L') (k : kv_V y d B Q kc ks n S I (pc + 1) L' (st)) : kv_V y d B Q kc ks n S I (pc) L (.ref x :: st) := by
  intro p l e R s m args below meth c D cA Z mc ms C H locs cells slots ls hR hH hq' hc hs hl
  exact lv_astore_n C.1 C.2.1 hd rfl hl hn hL (fun ls' hl' => (k p l e R s m args below meth c D cA Z mc ms C H locs cells slots ls' hR hH hq' hc hs hl'))
theorem kv_astore {i : Nat} {x : Nat} {L' : List (Nat × Value)} (hd : decode y.2.2.1 pc = .ok (.astore i, 2)) (hn : i < y.2.2.2.1) (hL : (i, Value.ref x) :: L.filter (fun q => !(q.1 == i) && !(q.1 + 1 == i && q.2.category == 2)) = L') (k : kv_V y d B Q kc ks n S I (pc + 2) L' (st)) : kv_V y d B Q kc ks n S I (pc) L (.ref x :: st) := by
  intro p l e R s m args below meth c D cA Z mc ms C H locs cells slots ls hR hH hq' hc hs hl
  exact lv_astore C.1 C.2.1 hd  hl hn hL (fun ls' hl' => (k p l e R s m args below meth c D cA Z mc ms C H locs cells slots ls' hR hH hq' hc hs hl'))
theorem kv_lstore_n {i : Fin 4} {x : Int64} {L' : List (Nat × Value)} (hd : decode y.2.2.1 pc = .ok (.lstore_n i, 1)) (hn : (i : Nat) + 1 < y.2.2.2.1) (hL : ((i : Nat), Value.long x) :: L.filter (fun q => !(q.1 == (i : Nat)) && (!(q.1 == (i : Nat) + 1) && !(q.1 + 1 == (i : Nat) && q.2.category == 2))) = L') (k : kv_V y d B Q kc ks n S I (pc + 1) L' (st)) : kv_V y d B Q kc ks n S I (pc) L (.long x :: st) := by
  intro p l e R s m args below meth c D cA Z mc ms C H locs cells slots ls hR hH hq' hc hs hl
  exact lv_lstore_n C.1 C.2.1 hd rfl hl hn hL (fun ls' hl' => (k p l e R s m args below meth c D cA Z mc ms C H locs cells slots ls' hR hH hq' hc hs hl'))
theorem kv_lstore {i : Nat} {x : Int64} {L' : List (Nat × Value)} (hd : decode y.2.2.1 pc = .ok (.lstore i, 2)) (hn : i + 1 < y.2.2.2.1) (hL : (i, Value.long x) :: L.filter (fun q => !(q.1 == i) && (!(q.1 == i + 1) && !(q.1 + 1 == i && q.2.category == 2))) = L') (k : kv_V y d B Q kc ks n S I (pc + 2) L' (st)) : kv_V y d B Q kc ks n S I (pc) L (.long x :: st) := by
  intro p l e R s m args below meth c D cA Z mc ms C H locs cells slots ls hR hH hq' hc hs hl
  exact lv_lstore C.1 C.2.1 hd  hl hn hL (fun ls' hl' => (k p l e R s m args below meth c D cA Z mc ms C H locs cells slots ls' hR hH hq' hc hs hl'))
theorem kv_iinc {i : Nat} {u : Int} {x v : Int32} {L' : List (Nat × Value)} (hd : decode y.2.2.1 pc = .ok (.iinc i u, 3)) (hm : L.lookup i = some (.int x)) (hv : x + Int32.ofInt u = v) (hn : i < y.2.2.2.1) (hL : (i, Value.int v) :: L.filter (fun q => !(q.1 == i) && !(q.1 + 1 == i && q.2.category == 2)) = L') (k : kv_V y d B Q kc ks n S I (pc + 3) L' (st)) : kv_V y d B Q kc ks n S I (pc) L (st) := by
  intro p l e R s m args below meth c D cA Z mc ms C H locs cells slots ls hR hH hq' hc hs hl
  obtain ⟨j, hj⟩ := List.getElem?_of_mem (kv_lkm hm)
  exact lv_iinc C.1 C.2.1 hd hl hj hv hn hL (fun ls' hl' => (k p l e R s m args below meth c D cA Z mc ms C H locs cells slots ls' hR hH hq' hc hs hl'))
theorem kv_if_eq {x : Int32} {off : Int} (tgt : Nat) (hd : decode y.2.2.1 pc = .ok (.ifCond .eq off, 3)) (ht : (pc : Int) + off = (tgt : Int)) (kt : x = 0 → kv_V y d B Q kc ks n S I (tgt) L (st)) (kf : ¬ x = 0 → kv_V y d B Q kc ks n S I (pc + 3) L (st)) : kv_V y d B Q kc ks n S I (pc) L (.int x :: st) := by
  intro p l e R s m args below meth c D cA Z mc ms C H locs cells slots ls hR hH hq' hc hs hl
  exact lv_if_eq C.1 C.2.1 hd ht (fun h => (kt h p l e R s m args below meth c D cA Z mc ms C H locs cells slots ls hR hH hq' hc hs hl)) (fun h => (kf h p l e R s m args below meth c D cA Z mc ms C H locs cells slots ls hR hH hq' hc hs hl))
theorem kv_icmp_eq {x z : Int32} {off : Int} (tgt : Nat) (hd : decode y.2.2.1 pc = .ok (.if_icmp .eq off, 3)) (ht : (pc : Int) + off = (tgt : Int)) (kt : x = z → kv_V y d B Q kc ks n S I (tgt) L (st)) (kf : ¬ x = z → kv_V y d B Q kc ks n S I (pc + 3) L (st)) : kv_V y d B Q kc ks n S I (pc) L (.int z :: .int x :: st) := by
  intro p l e R s m args below meth c D cA Z mc ms C H locs cells slots ls hR hH hq' hc hs hl
  exact lv_icmp_eq C.1 C.2.1 hd ht (fun h => (kt h p l e R s m args below meth c D cA Z mc ms C H locs cells slots ls hR hH hq' hc hs hl)) (fun h => (kf h p l e R s m args below meth c D cA Z mc ms C H locs cells slots ls hR hH hq' hc hs hl))
theorem kv_if_ne {x : Int32} {off : Int} (tgt : Nat) (hd : decode y.2.2.1 pc = .ok (.ifCond .ne off, 3)) (ht : (pc : Int) + off = (tgt : Int)) (kt : ¬ x = 0 → kv_V y d B Q kc ks n S I (tgt) L (st)) (kf : x = 0 → kv_V y d B Q kc ks n S I (pc + 3) L (st)) : kv_V y d B Q kc ks n S I (pc) L (.int x :: st) := by
  intro p l e R s m args below meth c D cA Z mc ms C H locs cells slots ls hR hH hq' hc hs hl
  exact lv_if_ne C.1 C.2.1 hd ht (fun h => (kt h p l e R s m args below meth c D cA Z mc ms C H locs cells slots ls hR hH hq' hc hs hl)) (fun h => (kf h p l e R s m args below meth c D cA Z mc ms C H locs cells slots ls hR hH hq' hc hs hl))
theorem kv_icmp_ne {x z : Int32} {off : Int} (tgt : Nat) (hd : decode y.2.2.1 pc = .ok (.if_icmp .ne off, 3)) (ht : (pc : Int) + off = (tgt : Int)) (kt : ¬ x = z → kv_V y d B Q kc ks n S I (tgt) L (st)) (kf : x = z → kv_V y d B Q kc ks n S I (pc + 3) L (st)) : kv_V y d B Q kc ks n S I (pc) L (.int z :: .int x :: st) := by
  intro p l e R s m args below meth c D cA Z mc ms C H locs cells slots ls hR hH hq' hc hs hl
  exact lv_icmp_ne C.1 C.2.1 hd ht (fun h => (kt h p l e R s m args below meth c D cA Z mc ms C H locs cells slots ls hR hH hq' hc hs hl)) (fun h => (kf h p l e R s m args below meth c D cA Z mc ms C H locs cells slots ls hR hH hq' hc hs hl))
theorem kv_if_lt {x : Int32} {off : Int} (tgt : Nat) (hd : decode y.2.2.1 pc = .ok (.ifCond .lt off, 3)) (ht : (pc : Int) + off = (tgt : Int)) (kt : x < 0 → kv_V y d B Q kc ks n S I (tgt) L (st)) (kf : ¬ x < 0 → kv_V y d B Q kc ks n S I (pc + 3) L (st)) : kv_V y d B Q kc ks n S I (pc) L (.int x :: st) := by
  intro p l e R s m args below meth c D cA Z mc ms C H locs cells slots ls hR hH hq' hc hs hl
  exact lv_if_lt C.1 C.2.1 hd ht (fun h => (kt h p l e R s m args below meth c D cA Z mc ms C H locs cells slots ls hR hH hq' hc hs hl)) (fun h => (kf h p l e R s m args below meth c D cA Z mc ms C H locs cells slots ls hR hH hq' hc hs hl))
theorem kv_icmp_lt {x z : Int32} {off : Int} (tgt : Nat) (hd : decode y.2.2.1 pc = .ok (.if_icmp .lt off, 3)) (ht : (pc : Int) + off = (tgt : Int)) (kt : x < z → kv_V y d B Q kc ks n S I (tgt) L (st)) (kf : ¬ x < z → kv_V y d B Q kc ks n S I (pc + 3) L (st)) : kv_V y d B Q kc ks n S I (pc) L (.int z :: .int x :: st) := by
  intro p l e R s m args below meth c D cA Z mc ms C H locs cells slots ls hR hH hq' hc hs hl
  exact lv_icmp_lt C.1 C.2.1 hd ht (fun h => (kt h p l e R s m args below meth c D cA Z mc ms C H locs cells slots ls hR hH hq' hc hs hl)) (fun h => (kf h p l e R s m args below meth c D cA Z mc ms C H locs cells slots ls hR hH hq' hc hs hl))
theorem kv_if_ge {x : Int32} {off : Int} (tgt : Nat) (hd : decode y.2.2.1 pc = .ok (.ifCond .ge off, 3)) (ht : (pc : Int) + off = (tgt : Int)) (kt : 0 ≤ x → kv_V y d B Q kc ks n S I (tgt) L (st)) (kf : ¬ 0 ≤ x → kv_V y d B Q kc ks n S I (pc + 3) L (st)) : kv_V y d B Q kc ks n S I (pc) L (.int x :: st) := by
  intro p l e R s m args below meth c D cA Z mc ms C H locs cells slots ls hR hH hq' hc hs hl
  exact lv_if_ge C.1 C.2.1 hd ht (fun h => (kt h p l e R s m args below meth c D cA Z mc ms C H locs cells slots ls hR hH hq' hc hs hl)) (fun h => (kf h p l e R s m args below meth c D cA Z mc ms C H locs cells slots ls hR hH hq' hc hs hl))
theorem kv_icmp_ge {x z : Int32} {off : Int} (tgt : Nat) (hd : decode y.2.2.1 pc = .ok (.if_icmp .ge off, 3)) (ht : (pc : Int) + off = (tgt : Int)) (kt : z ≤ x → kv_V y d B Q kc ks n S I (tgt) L (st)) (kf : ¬ z ≤ x → kv_V y d B Q kc ks n S I (pc + 3) L (st)) : kv_V y d B Q kc ks n S I (pc) L (.int z :: .int x :: st) := by
  intro p l e R s m args below meth c D cA Z mc ms C H locs cells slots ls hR hH hq' hc hs hl
  exact lv_icmp_ge C.1 C.2.1 hd ht (fun h => (kt h p l e R s m args below meth c D cA Z mc ms C H locs cells slots ls hR hH hq' hc hs hl)) (fun h => (kf h p l e R s m args below meth c D cA Z mc ms C H locs cells slots ls hR hH hq' hc hs hl))
theorem kv_if_gt {x : Int32} {off : Int} (tgt : Nat) (hd : decode y.2.2.1 pc = .ok (.ifCond .gt off, 3)) (ht : (pc : Int) + off = (tgt : Int)) (kt : 0 < x → kv_V y d B Q kc ks n S I (tgt) L (st)) (kf : ¬ 0 < x → kv_V y d B Q kc ks n S I (pc + 3) L (st)) : kv_V y d B Q kc ks n S I (pc) L (.int x :: st) := by
  intro p l e R s m args below meth c D cA Z mc ms C H locs cells slots ls hR hH hq' hc hs hl
  exact lv_if_gt C.1 C.2.1 hd ht (fun h => (kt h p l e R s m args below meth c D cA Z mc ms C H locs cells slots ls hR hH hq' hc hs hl)) (fun h => (kf h p l e R s m args below meth c D cA Z mc ms C H locs cells slots ls hR hH hq' hc hs hl))
theorem kv_icmp_gt {x z : Int32} {off : Int} (tgt : Nat) (hd : decode y.2.2.1 pc = .ok (.if_icmp .gt off, 3)) (ht : (pc : Int) + off = (tgt : Int)) (kt : z < x → kv_V y d B Q kc ks n S I (tgt) L (st)) (kf : ¬ z < x → kv_V y d B Q kc ks n S I (pc + 3) L (st)) : kv_V y d B Q kc ks n S I (pc) L (.int z :: .int x :: st) := by
  intro p l e R s m args below meth c D cA Z mc ms C H locs cells slots ls hR hH hq' hc hs hl
  exact lv_icmp_gt C.1 C.2.1 hd ht (fun h => (kt h p l e R s m args below meth c D cA Z mc ms C H locs cells slots ls hR hH hq' hc hs hl)) (fun h => (kf h p l e R s m args below meth c D cA Z mc ms C H locs cells slots ls hR hH hq' hc hs hl))
theorem kv_if_le {x : Int32} {off : Int} (tgt : Nat) (hd : decode y.2.2.1 pc = .ok (.ifCond .le off, 3)) (ht : (pc : Int) + off = (tgt : Int)) (kt : x ≤ 0 → kv_V y d B Q kc ks n S I (tgt) L (st)) (kf : ¬ x ≤ 0 → kv_V y d B Q kc ks n S I (pc + 3) L (st)) : kv_V y d B Q kc ks n S I (pc) L (.int x :: st) := by
  intro p l e R s m args below meth c D cA Z mc ms C H locs cells slots ls hR hH hq' hc hs hl
  exact lv_if_le C.1 C.2.1 hd ht (fun h => (kt h p l e R s m args below meth c D cA Z mc ms C H locs cells slots ls hR hH hq' hc hs hl)) (fun h => (kf h p l e R s m args below meth c D cA Z mc ms C H locs cells slots ls hR hH hq' hc hs hl))
theorem kv_icmp_le {x z : Int32} {off : Int} (tgt : Nat) (hd : decode y.2.2.1 pc = .ok (.if_icmp .le off, 3)) (ht : (pc : Int) + off = (tgt : Int)) (kt : x ≤ z → kv_V y d B Q kc ks n S I (tgt) L (st)) (kf : ¬ x ≤ z → kv_V y d B Q kc ks n S I (pc + 3) L (st)) : kv_V y d B Q kc ks n S I (pc) L (.int z :: .int x :: st) := by
  intro p l e R s m args below meth c D cA Z mc ms C H locs cells slots ls hR hH hq' hc hs hl
  exact lv_icmp_le C.1 C.2.1 hd ht (fun h => (kt h p l e R s m args below meth c D cA Z mc ms C H locs cells slots ls hR hH hq' hc hs hl)) (fun h => (kf h p l e R s m args below meth c D cA Z mc ms C H locs cells slots ls hR hH hq' hc hs hl))
theorem kv_goto {off : Int} (tgt : Nat) (hd : decode y.2.2.1 pc = .ok (.goto off, 3)) (ht : (pc : Int) + off = (tgt : Int)) (k : kv_V y d B Q kc ks n S I (tgt) L (st)) : kv_V y d B Q kc ks n S I (pc) L (st) := by
  intro p l e R s m args below meth c D cA Z mc ms C H locs cells slots ls hR hH hq' hc hs hl
  exact lv_goto C.1 C.2.1 hd ht (k p l e R s m args below meth c D cA Z mc ms C H locs cells slots ls hR hH hq' hc hs hl)
theorem kv_tableOut {dflt lo hi : Int} {offs : Array Int} {len : Nat} {x : Int32} (tgt : Nat) (hd : decode y.2.2.1 pc = .ok (.tableswitch dflt lo hi offs, len)) (h : x.toInt < lo ∨ hi < x.toInt) (ht : (pc : Int) + dflt = (tgt : Int)) (k : kv_V y d B Q kc ks n S I (tgt) L (st)) : kv_V y d B Q kc ks n S I (pc) L (.int x :: st) := by
  intro p l e R s m args below meth c D cA Z mc ms C H locs cells slots ls hR hH hq' hc hs hl
  exact lv_tableOut C.1 C.2.1 hd h ht (k p l e R s m args below meth c D cA Z mc ms C H locs cells slots ls hR hH hq' hc hs hl)
theorem kv_tableIn {dflt lo hi : Int} {offs : Array Int} {len : Nat} {x : Int32} {off : Int} (tgt : Nat) (hd : decode y.2.2.1 pc = .ok (.tableswitch dflt lo hi offs, len)) (h1 : ¬ x.toInt < lo) (h2 : ¬ hi < x.toInt) (ho : offs[(x.toInt - lo).toNat]? = some off) (ht : (pc : Int) + off = (tgt : Int)) (k : kv_V y d B Q kc ks n S I (tgt) L (st)) : kv_V y d B Q kc ks n S I (pc) L (.int x :: st) := by
  intro p l e R s m args below meth c D cA Z mc ms C H locs cells slots ls hR hH hq' hc hs hl
  exact lv_tableIn C.1 C.2.1 hd h1 h2 ho ht (k p l e R s m args below meth c D cA Z mc ms C H locs cells slots ls hR hH hq' hc hs hl)
theorem kv_ldc {idx : Nat} {v : Int32} (hw : Cond.constant y.1 idx v ∈ kv_tb) (hd : decode y.2.2.1 pc = .ok (.ldc idx, 2)) (k : kv_V y d B Q kc ks n S I (pc + 2) L (.int v :: st)) : kv_V y d B Q kc ks n S I (pc) L (st) := by
  intro p l e R s m args below meth c D cA Z mc ms C H locs cells slots ls hR hH hq' hc hs hl
  exact lv_ldc C.1 C.2.1 C.2.2.2.1 (C.2.2.2.2.1 _ hw) hd (k p l e R s m args below meth c D cA Z mc ms C H locs cells slots ls hR hH hq' hc hs hl)
theorem kv_ldc2 {idx : Nat} {v : Int64} (hw : Cond.constantLong y.1 idx v ∈ kv_tb) (hd : decode y.2.2.1 pc = .ok (.ldc2_w idx, 3)) (k : kv_V y d B Q kc ks n S I (pc + 3) L (.long v :: st)) : kv_V y d B Q kc ks n S I (pc) L (st) := by
  intro p l e R s m args below meth c D cA Z mc ms C H locs cells slots ls hR hH hq' hc hs hl
  exact lv_ldc2 C.1 C.2.1 C.2.2.2.1 (C.2.2.2.2.1 _ hw) hd (k p l e R s m args below meth c D cA Z mc ms C H locs cells slots ls hR hH hq' hc hs hl)
end KVR
end
section
def kv_F (own : String) (idx ci k : Nat) (t : Bool) : Prop := ∃ (C : String) (T : u_T) (N : Nat), vwCl[ci]? = some (C, T, N) ∧ k < N ∧ (∀ w ∈ u_ws C T N, w ∈ kv_tb) ∧ (kv_flags ci)[k]? = some t ∧
  ((Cond.fieldLink own idx (T k).1 (T k).2.1 (T k).2.2.1 ∈ kv_tb) ∨ ∃ host, Cond.fieldLinkNest own idx (T k).1 (T k).2.1 (T k).2.2.1 host ∈ kv_nw)
def kv_G (own : String) (idx ci k : Nat) (t : Bool) (ty : FieldType) (fin : Bool) : Prop := ∃ (C : String) (T : u_T) (N : Nat) (ty0 : Nat → FieldType), vwCl[ci]? = some (C, T, N) ∧ k < N ∧ (∀ w ∈ u_ws C T N, w ∈ kv_tb) ∧ (kv_flags ci)[k]? = some t ∧
  (∀ j, j < N → parseFieldDescriptor (T j).2.2.1 = some (ty0 j)) ∧ (∀ a, a < N → ∀ b, b < N → a ≠ b → (T a).2.1 ≠ (T b).2.1) ∧ (T k).2.2.2 = fin ∧ parseFieldDescriptor (T k).2.2.1 = some ty ∧ (fin = true → (T k).1 = own) ∧
  ((Cond.fieldLink own idx (T k).1 (T k).2.1 (T k).2.2.1 ∈ kv_tb) ∨ (fin = false ∧ ∃ host, Cond.fieldLinkNest own idx (T k).1 (T k).2.1 (T k).2.2.1 host ∈ kv_nw))
section KVH
variable {y : kv_M} {d : Nat} {B : kv_B} {Q : kv_Q} {kc ks n : Nat} {S : kv_SM} {I : kv_IM} {pc : Nat} {L : List (Nat × Value)} {st : List Value}
theorem kv_get {idx ci k a : Nat} {t : Bool} {r : Nat → Option Nat} (F : kv_F y.1 idx ci k t) (hd : decode y.2.2.1 pc = .ok (.getfield idx, 3)) (hS : S a = kO ci r)
    (kk : kv_V y d B Q kc ks n S I (pc + 3) L ((if t = true then va_rf (r k) else .int (I a k)) :: st)) : kv_V y d B Q kc ks n S I pc L (.ref a :: st) := by
  intro p l e R s m args below meth c D cA Z mc ms C H locs cells slots ls hR hH hq' hc hs hl
  obtain ⟨C0, T, N, h1, h2, h3, h4, h5⟩ := F
  obtain ⟨i1, i2⟩ := hR.inO hS
  have he : (kv_ws B.1 n cA S I)[a - B.1]? = some (a, .inr (ci, kv_fs (kv_flags ci) r (I a))) := by
    have h := kv_ws_get (cA := cA) (S := S) (I := I) i1 i2
    rw [hS] at h
    exact h
  have hts := C.2.2.2.2.1
  have hnw := C.2.2.2.2.2.1
  have hK := C.2.2.2.2.2.2.1
  have kk' := kk p l e R s m args below meth c D cA Z mc ms C H locs cells slots ls hR hH hq' hc hs hl
  rcases h5 with h5 | ⟨host, h5⟩
  · exact va_get C.1 C.2.1 hts h3 C.2.2.2.1 hK hR.2.1 (a - B.1) he h1 k h2 (hts _ h5) (fun _ h9 => h9) (kv_fs_get h4) hd kk'
  · exact va_getN C.1 C.2.1 hts h3 C.2.2.2.1 hK hR.2.1 (a - B.1) he h1 k h2 (va_Nw.use rfl (hnw.1 _ h5)) (fun _ h9 => h9) (kv_fs_get h4) hd kk'
theorem kv_getI {idx ci k a : Nat} {r : Nat → Option Nat} (F : kv_F y.1 idx ci k false) (hd : decode y.2.2.1 pc = .ok (.getfield idx, 3)) (hS : S a = kO ci r)
    (kk : kv_V y d B Q kc ks n S I (pc + 3) L (.int (I a k) :: st)) : kv_V y d B Q kc ks n S I pc L (.ref a :: st) := kv_get F hd hS (by rw [if_neg (by decide)]; exact kk)
theorem kv_getR {idx ci k a a1 : Nat} {r : Nat → Option Nat} (F : kv_F y.1 idx ci k true) (hd : decode y.2.2.1 pc = .ok (.getfield idx, 3)) (hS : S a = kO ci r) (hr : r k = some a1)
    (kk : kv_V y d B Q kc ks n S I (pc + 3) L (.ref a1 :: st)) : kv_V y d B Q kc ks n S I pc L (.ref a :: st) := kv_get F hd hS (by rw [if_pos rfl, hr]; exact kk)
theorem kv_putW {idx ci k a : Nat} {t : Bool} {ty : FieldType} {fin : Bool} {r : Nat → Option Nat} {v : Value} {S' : kv_SM} {I' : kv_IM} (F : kv_G y.1 idx ci k t ty fin) (hf : fin = true → y.2.1.name = "<init>") (hd : decode y.2.2.1 pc = .ok (.putfield idx, 3)) (hS : S a = kO ci r) (hn : narrow ty v = v) (hfit : fits ty v = true)
    (he' : ∀ cA, kv_e cA (S' a) (I' a) = .inr (ci, (kv_fs (kv_flags ci) r (I a)).set k v)) (ho : ∀ q, q ≠ a → S' q = S q ∧ I' q = I q)
    (kk : kv_V y d B Q kc ks n S' I' (pc + 3) L st) : kv_V y d B Q kc ks n S I pc L (v :: .ref a :: st) := by
  intro p l e R s m args below meth c D cA Z mc ms C H locs cells slots ls hR hH hq' hc hs hl
  obtain ⟨C0, T, N, ty0, h1, h2, h3, h4, hty, hnm, hfin, hpd, hfo, h5⟩ := F
  obtain ⟨i1, i2⟩ := hR.inO hS
  have he : (kv_ws B.1 n cA S I)[a - B.1]? = some (a, .inr (ci, kv_fs (kv_flags ci) r (I a))) := by
    have h := kv_ws_get (cA := cA) (S := S) (I := I) i1 i2
    rw [hS] at h
    exact h
  have hts := C.2.2.2.2.1
  have hnw := C.2.2.2.2.2.1
  have hK := C.2.2.2.2.2.2.1
  have hown := C.2.2.2.1
  have hP := hR.2.1
  have hap := va_apart (own := y.1) hts h3 ty0 hty hnm hK h1
  obtain ⟨r0, g1, cell, q1, q2, q3, q4⟩ := hP (a - B.1) _ he
  have hr : r0 = (C0, T, N) := Option.some.inj (g1.symm.trans h1)
  subst hr
  obtain ⟨hSl, hfc, kC, hkC, hkind⟩ := hK.1 ci _ h1
  obtain ⟨cf, kf, fi, f, hi, hsl⟩ := hSl k h2
  have hst := (u_facts hfc hkC (u_lays hts h3 h2) hi).1
  have hl2 : k < (kv_fs (kv_flags ci) r (I a)).length := by rw [kv_fs_len]; exact (List.getElem?_eq_some_iff.mp h4).1
  have fin' : ∀ (H' : Heap), H'[a]? = some (cell.setSlot (D.2 ci k) v) → H'.size = H.size → (∀ q, q ≠ a → H'[q]? = H[q]?) → W p l e R s m args below meth c H' (locs ++ [⟨a, D.2 ci k⟩]) cells slots Z (F0 m (pc + 3) ls st) := by
    intro H' e1 e2 e3
    have hP' : va_P D vwCl ((kv_ws B.1 n cA S I).set (a - B.1) (a, .inr (ci, (kv_fs (kv_flags ci) r (I a)).set k v))) H' :=
      hP.set kv_ws_D he ⟨_, h1, t_OB.to (V := updV (vp_V (kv_fs (kv_flags ci) r (I a))) k v) ⟨_, e1, q2, q3, t_set q4 hap h2 v⟩ (fun j _ => vp_updV_set hl2 v j)⟩ e3
    refine kk p l e R s m args below meth c D cA Z mc ms C H' _ cells slots ls (hR.set i1 i2 e2 hP' (he' cA) ho) ?_ ?_ hc hs hl
    · rw [e3 _ (by have := C.2.2.2.2.2.2.2.2.2.1.1; omega)]
      exact hH
    · intro q hq
      rcases List.mem_append.mp hq with h | h
      · exact hq' q h
      · rw [List.mem_singleton.mp h]
        exact i1
  cases fin with
  | false =>
    have hlay := hts _ (h3 _ (u_in_lay h2))
    unfold u_lay at hlay
    rw [if_neg (by rw [hfin]; decide)] at hlay
    have h6 := u_store hfc hkC hkind hlay hi hpd hn hfit
    rcases h5 with h5 | ⟨-, host, h5⟩
    · refine W.putK C.1 C.2.1 (f := f) ⟨hown, hts _ h5, ⟨_, _, _, hi⟩, hst⟩ (by rw [q2]; exact h6) q1 q3 (by rw [hsl]; exact k2_hasslot (q4 k h2)) rfl rfl hd fun H' e1 e2 e3 => ?_
      rw [hsl] at e1 ⊢
      exact fin' H' e1 e2 e3
    · refine va_WputK C.1 C.2.1 (f := f) hown (va_Nw.use rfl (hnw.1 _ h5)) hi hst (by rw [q2]; exact h6) q1 q3 (by rw [hsl]; exact k2_hasslot (q4 k h2)) rfl rfl hd fun H' e1 e2 e3 => ?_
      rw [hsl] at e1 ⊢
      exact fin' H' e1 e2 e3
  | true =>
    have hlay := hts _ (h3 _ (u_in_lay h2))
    unfold u_lay at hlay
    rw [if_pos hfin] at hlay
    have hcf : m.cls = cf := by
      obtain ⟨_, _, c', _, _, _, -, -, hf', -, -, -, hown2, -⟩ := Cond.laysFinal_spec hlay
      have e1 : c' = cf := by have := hi.symm.trans hf'; simp at this; exact this.1.symm
      rw [hfo rfl] at hown2
      rw [← e1]; exact Option.some.inj (hown.symm.trans hown2)
    have h6 := u_fits hfc hkC hkind (Or.inr hlay) hi hpd hn hfit
    rcases h5 with h5 | ⟨h5, -⟩
    · refine W.putFinK C.1 C.2.1 hown (hts _ h5) hi hst hcf (C.2.2.2.2.2.2.2.2.1 (hf rfl)) (by rw [q2]; exact h6) q1 q3 (by rw [hsl]; exact k2_hasslot (q4 k h2)) rfl rfl hd fun H' e1 e2 e3 => ?_
      rw [hsl] at e1 ⊢
      exact fin' H' e1 e2 e3
    · cases h5
theorem kv_putI {idx ci k a : Nat} {ty : FieldType} {fin : Bool} {r : Nat → Option Nat} {x : Int32} (F : kv_G y.1 idx ci k false ty fin) (hf : fin = true → y.2.1.name = "<init>") (hd : decode y.2.2.1 pc = .ok (.putfield idx, 3)) (hS : S a = kO ci r) (hn : narrow ty (.int x) = .int x) (hfit : fits ty (.int x) = true)
    (kk : kv_V y d B Q kc ks n S (kv_up I a k x) (pc + 3) L st) : kv_V y d B Q kc ks n S I pc L (.int x :: .ref a :: st) := by
  obtain ⟨C0, T, N, ty0, h1, h2, h3, h4, h5⟩ := id F
  refine kv_putW F hf hd hS hn hfit (fun cA => ?_) (fun q hq => ⟨rfl, ?_⟩) kk
  · rw [hS]
    show Sum.inr (ci, kv_fs _ _ _) = _
    rw [kv_fs_setI h4 (f := I a) (x := x) (by simp [kv_up]) (fun j hj => by simp [kv_up, hj])]
  · funext j
    simp [kv_up, hq]
theorem kv_putR {idx ci k a v : Nat} {nm : FieldType} {fin : Bool} {r : Nat → Option Nat} (F : kv_G y.1 idx ci k true nm fin) (hf : fin = true → y.2.1.name = "<init>") (hd : decode y.2.2.1 pc = .ok (.putfield idx, 3)) (hS : S a = kO ci r) (hn : narrow nm (.ref v) = .ref v) (hfit : fits nm (.ref v) = true)
    (kk : kv_V y d B Q kc ks n (kv_su S a (kO ci (kv_ru r k (some v)))) I (pc + 3) L st) : kv_V y d B Q kc ks n S I pc L (.ref v :: .ref a :: st) := by
  obtain ⟨C0, T, N, ty0, h1, h2, h3, h4, h5⟩ := id F
  refine kv_putW F hf hd hS hn hfit (fun cA => ?_) (fun q hq => ⟨?_, rfl⟩) kk
  · have e : kv_su S a (kO ci (kv_ru r k (some v))) a = kO ci (kv_ru r k (some v)) := by simp [kv_su]
    rw [e]
    show Sum.inr (ci, kv_fs _ _ _) = _
    rw [kv_fs_setR h4 (r := r) (x := some v) (by simp [kv_ru]) (fun j hj => by simp [kv_ru, hj])]
    rfl
  · simp [kv_su, hq]
theorem kv_iald {a m' : Nat} {i : Int32} (j : Nat) (hd : decode y.2.2.1 pc = .ok (.iaload, 1)) (hS : S a = kI m') (hi : i = nI j) (hj : j < m') (hm : m' < 2 ^ 31)
    (kk : kv_V y d B Q kc ks n S I (pc + 1) L (.int (I a j) :: st)) : kv_V y d B Q kc ks n S I pc L (.int i :: .ref a :: st) := by
  intro p l e R s m args below meth c D cA Z mc ms C H locs cells slots ls hR hH hq' hc hs hl
  obtain ⟨i1, i2⟩ := hR.inI hS (by omega)
  have he : (kv_ws B.1 n cA S I)[a - B.1]? = some (a, .inl (cA 0, m', .inl (I a))) := by
    have h := kv_ws_get (cA := cA) (S := S) (I := I) i1 i2
    rw [hS] at h
    exact h
  subst hi
  refine va_iald C.1 C.2.1 C.2.2.2.2.2.2.1 hR.2.1 (a - B.1) 0 he rfl (vp_in_nI hj hm) hd ?_
  rw [nI_clamp (by omega)]
  exact kk p l e R s m args below meth c D cA Z mc ms C H locs cells slots ls hR hH hq' hc hs hl
theorem kv_iast {a m' : Nat} {i x : Int32} (j : Nat) (hd : decode y.2.2.1 pc = .ok (.iastore, 1)) (hS : S a = kI m') (hi : i = nI j) (hj : j < m') (hm : m' < 2 ^ 31)
    (kk : kv_V y d B Q kc ks n S (kv_up I a j x) (pc + 1) L st) : kv_V y d B Q kc ks n S I pc L (.int x :: .int i :: .ref a :: st) := by
  intro p l e R s m args below meth c D cA Z mc ms C H locs cells slots ls hR hH hq' hc hs hl
  obtain ⟨i1, i2⟩ := hR.inI hS (by omega)
  have he : (kv_ws B.1 n cA S I)[a - B.1]? = some (a, .inl (cA 0, m', .inl (I a))) := by
    have h := kv_ws_get (cA := cA) (S := S) (I := I) i1 i2
    rw [hS] at h
    exact h
  subst hi
  have hK := C.2.2.2.2.2.2.1
  refine W.iast C.1 C.2.1 (hR.2.1 _ _ he) ((hK.2 0 _ rfl).1 m' (fun j => .int (I a j))) (fun q => by cases q) (by show ¬ (_ < 0 ∨ (arrV _ _ _).slots.size ≤ _); rw [arrV_size]; exact vp_in_nI hj hm) rfl rfl hd fun H1 e1 z oq0 => ?_
  have oq : ∀ q : Nat, q ≠ a → H1[q]? = H[q]? := oq0
  rw [nI_clamp (by omega)] at e1 ⊢
  have hP' : va_P D vwCl ((kv_ws B.1 n cA S I).set (a - B.1) (a, .inl (cA 0, m', .inl (upd (I a) j x)))) H1 := by
    refine hR.2.1.set kv_ws_D he ?_ oq
    show H1[a]? = some (vp_cell _ _)
    rw [e1]
    rw [vp_cell_i, vp_cell_i, arrV_store]
    congr 2
    funext q
    by_cases hq : q = j
    · subst hq
      simp [updV, upd]
    · simp [updV, upd, hq]
  refine kk p l e R s m args below meth c D cA Z mc ms C H1 _ cells slots ls (hR.set i1 i2 z hP' ?_ (fun q hq => ⟨rfl, ?_⟩)) ?_ ?_ hc hs hl
  · rw [hS]
    have hf : kv_up I a j x a = upd (I a) j x := by
      funext q
      simp [kv_up, upd]
    show Sum.inl (cA 0, m', Sum.inl (kv_up I a j x a)) = _
    rw [hf]
  · funext j'
    simp [kv_up, hq]
  · rw [oq _ (by have := C.2.2.2.2.2.2.2.2.2.1.1; omega)]
    exact hH
  · intro q hq
    rcases List.mem_append.mp hq with h | h
    · exact hq' q h
    · rw [List.mem_singleton.mp h]
      exact i1
theorem kv_zald {a m' : Nat} {i : Int32} (j : Nat) (hd : decode y.2.2.1 pc = .ok (.baload, 1)) (hS : S a = kZ m') (hi : i = nI j) (hj : j < m') (hm : m' < 2 ^ 31)
    (kk : kv_V y d B Q kc ks n S I (pc + 1) L (.int (I a j) :: st)) : kv_V y d B Q kc ks n S I pc L (.int i :: .ref a :: st) := by
  intro p l e R s m args below meth c D cA Z mc ms C H locs cells slots ls hR hH hq' hc hs hl
  obtain ⟨i1, i2⟩ := hR.inI hS (by omega)
  have he : (kv_ws B.1 n cA S I)[a - B.1]? = some (a, .inl (cA 1, m', .inl (I a))) := by
    have h := kv_ws_get (cA := cA) (S := S) (I := I) i1 i2
    rw [hS] at h
    exact h
  subst hi
  refine va_zald C.1 C.2.1 C.2.2.2.2.2.2.1 hR.2.1 (a - B.1) 1 he rfl (vp_in_nI hj hm) hd ?_
  rw [nI_clamp (by omega)]
  exact kk p l e R s m args below meth c D cA Z mc ms C H locs cells slots ls hR hH hq' hc hs hl
theorem kv_zast {a m' : Nat} {i x : Int32} (j : Nat) (hx : x = 0 ∨ x = 1) (hd : decode y.2.2.1 pc = .ok (.bastore, 1)) (hS : S a = kZ m') (hi : i = nI j) (hj : j < m') (hm : m' < 2 ^ 31)
    (kk : kv_V y d B Q kc ks n S (kv_up I a j x) (pc + 1) L st) : kv_V y d B Q kc ks n S I pc L (.int x :: .int i :: .ref a :: st) := by
  intro p l e R s m args below meth c D cA Z mc ms C H locs cells slots ls hR hH hq' hc hs hl
  obtain ⟨i1, i2⟩ := hR.inI hS (by omega)
  have he : (kv_ws B.1 n cA S I)[a - B.1]? = some (a, .inl (cA 1, m', .inl (I a))) := by
    have h := kv_ws_get (cA := cA) (S := S) (I := I) i1 i2
    rw [hS] at h
    exact h
  subst hi
  have hK := C.2.2.2.2.2.2.1
  refine W.zast C.1 C.2.1 (hR.2.1 _ _ he) ((hK.2 1 _ rfl).1 m' (fun j => .int (I a j))) (fun q => by cases q) (by show ¬ (_ < 0 ∨ (arrV _ _ _).slots.size ≤ _); rw [arrV_size]; exact vp_in_nI hj hm) rfl rfl hd fun H1 e1 z oq0 => ?_
  have oq : ∀ q : Nat, q ≠ a → H1[q]? = H[q]? := oq0
  have hnx : narrow .boolean (.int x) = .int x := by rcases hx with rfl | rfl <;> rfl
  rw [nI_clamp (by omega)] at e1 ⊢
  rw [hnx] at e1
  have hP' : va_P D vwCl ((kv_ws B.1 n cA S I).set (a - B.1) (a, .inl (cA 1, m', .inl (upd (I a) j x)))) H1 := by
    refine hR.2.1.set kv_ws_D he ?_ oq
    show H1[a]? = some (vp_cell _ _)
    rw [e1]
    rw [vp_cell_i, vp_cell_i, arrV_store]
    congr 2
    funext q
    by_cases hq : q = j
    · subst hq
      simp [updV, upd]
    · simp [updV, upd, hq]
  refine kk p l e R s m args below meth c D cA Z mc ms C H1 _ cells slots ls (hR.set i1 i2 z hP' ?_ (fun q hq => ⟨rfl, ?_⟩)) ?_ ?_ hc hs hl
  · rw [hS]
    have hf : kv_up I a j x a = upd (I a) j x := by
      funext q
      simp [kv_up, upd]
    show Sum.inl (cA 1, m', Sum.inl (kv_up I a j x a)) = _
    rw [hf]
  · funext j'
    simp [kv_up, hq]
  · rw [oq _ (by have := C.2.2.2.2.2.2.2.2.2.1.1; omega)]
    exact hH
  · intro q hq
    rcases List.mem_append.mp hq with h | h
    · exact hq' q h
    · rw [List.mem_singleton.mp h]
      exact i1
theorem kv_alen {a m' : Nat} (hd : decode y.2.2.1 pc = .ok (.arraylength, 1)) (hS : S a = kI m') (h0 : 0 < m')
    (kk : kv_V y d B Q kc ks n S I (pc + 1) L (.int (nI m') :: st)) : kv_V y d B Q kc ks n S I pc L (.ref a :: st) := by
  intro p l e R s m args below meth c D cA Z mc ms C H locs cells slots ls hR hH hq' hc hs hl
  obtain ⟨i1, i2⟩ := hR.inI hS h0
  have he : (kv_ws B.1 n cA S I)[a - B.1]? = some (a, .inl (cA 0, m', .inl (I a))) := by
    have h := kv_ws_get (cA := cA) (S := S) (I := I) i1 i2
    rw [hS] at h
    exact h
  exact va_alen C.1 C.2.1 C.2.2.2.2.2.2.1 hR.2.1 (a - B.1) 0 he rfl (v := nI m') rfl hd (kk p l e R s m args below meth c D cA Z mc ms C H locs cells slots ls hR hH hq' hc hs hl)
theorem kv_aald {a ci m' a1 : Nat} {r : Nat → Option Nat} {i : Int32} (j : Nat) (hd : decode y.2.2.1 pc = .ok (.aaload, 1)) (hS : S a = kA ci m' r) (ht : ∃ (t0 : Nat) (Cn : String), ∀ cA : Nat → ClassId, (kv_tys cA)[t0]? = some (cA (ci + 2), FieldType.object Cn)) (hi : i = nI j) (hj : j < m') (hm : m' < 2 ^ 31) (hr : r j = some a1)
    (kk : kv_V y d B Q kc ks n S I (pc + 1) L (.ref a1 :: st)) : kv_V y d B Q kc ks n S I pc L (.int i :: .ref a :: st) := by
  intro p l e R s m args below meth c D cA Z mc ms C H locs cells slots ls hR hH hq' hc hs hl
  obtain ⟨i1, i2⟩ := hR.inA hS
  have he : (kv_ws B.1 n cA S I)[a - B.1]? = some (a, .inl (cA (ci + 2), m', .inr (.inr (.inr (.inr r))))) := by
    have h := kv_ws_get (cA := cA) (S := S) (I := I) i1 i2
    rw [hS] at h
    exact h
  subst hi
  obtain ⟨t0, Cn, ht⟩ := ht
  refine va_aldq C.1 C.2.1 C.2.2.2.2.2.2.1 hR.2.1 (a - B.1) t0 he (ht cA) (vp_in_nI hj hm) hd ?_
  rw [nI_clamp (by omega), hr]
  exact kk p l e R s m args below meth c D cA Z mc ms C H locs cells slots ls hR hH hq' hc hs hl
theorem kv_sld {i : Int32} (j : Nat) (hd : decode y.2.2.1 pc = .ok (.iaload, 1)) (hi : i = nI j) (hj : j < B.2.2.1) (hm : B.2.2.1 < 2 ^ 31)
    (kk : kv_V y d B Q kc ks n S I (pc + 1) L (.int (B.2.2.2 j) :: st)) : kv_V y d B Q kc ks n S I pc L (.int i :: .ref B.2.1 :: st) := by
  intro p l e R s m args below meth c D cA Z mc ms C H locs cells slots ls hR hH hq' hc hs hl
  subst hi
  obtain ⟨scr, h1, h2, h3, h4, h5⟩ := C.2.2.2.2.2.2.2.2.2.1.2
  refine W.iald (v := .int (B.2.2.2 j)) C.1 C.2.1 (by rw [hH]; exact h1) h2 h3 (by rw [h4]; exact vp_in_nI hj hm) (by rw [nI_clamp (by omega)]; exact h5 _ hj) rfl rfl hd ?_
  exact kk p l e R s m args below meth c D cA Z mc ms C H locs cells slots ls hR hH hq' hc hs hl
theorem kv_slen (hd : decode y.2.2.1 pc = .ok (.arraylength, 1))
    (kk : kv_V y d B Q kc ks n S I (pc + 1) L (.int (nI B.2.2.1) :: st)) : kv_V y d B Q kc ks n S I pc L (.ref B.2.1 :: st) := by
  intro p l e R s m args below meth c D cA Z mc ms C H locs cells slots ls hR hH hq' hc hs hl
  obtain ⟨scr, h1, h2, h3, h4, h5⟩ := C.2.2.2.2.2.2.2.2.2.1.2
  exact W.alen (n := nI B.2.2.1) C.1 C.2.1 (by rw [hH]; exact h1) h2 (by rw [h4] <;> rfl) rfl rfl hd (kk p l e R s m args below meth c D cA Z mc ms C H locs cells slots ls hR hH hq' hc hs hl)
end KVH
end
section
def kv_LB (yc : kv_M) (N : Nat) : Prop := Cond.code yc.2.1 yc.2.2.1 yc.2.2.2.1 yc.2.2.2.2 ∈ kv_tb ∧ Cond.initialized yc.2.1.cls ∈ kv_tb ∧ (yc.2.1.cls ≠ "java/lang/invoke/MethodHandle" ∧ yc.2.1.cls ≠ "java/lang/invoke/VarHandle") ∧ ((parseMethodDescriptor yc.2.1.desc).map (fun d => d.parameters.length) = some N) ∧ yc.2.2.2.1 ≤ 17
def kv_LK (own : String) (idx : Nat) (yc : kv_M) : Prop := Cond.methodLink own idx yc.2.1 ∈ kv_tb ∨ ∃ host, Cond.methodLinkNest own idx yc.2.1 host ∈ kv_nw
def kv_LS (own : String) (idx : Nat) (yc : kv_M) (N : Nat) : Prop := kv_LB yc N ∧ kv_LK own idx yc ∧ Cond.static yc.2.1 ∈ kv_tb
def kv_LV (own : String) (idx : Nat) (yc : kv_M) (N ci : Nat) : Prop := kv_LB yc N ∧ kv_LK own idx yc ∧ Cond.instanceMethod yc.2.1 ∈ kv_tb ∧ ∃ (q : vw_C), vwCl[ci]? = some q ∧ Cond.selects q.1 yc.2.1 yc.2.1 ∈ kv_tb
def kv_LI (own : String) (idx : Nat) (yc : kv_M) (N : Nat) : Prop := kv_LB yc N ∧ kv_LK own idx yc ∧ Cond.instanceMethod yc.2.1 ∈ kv_tb ∧ yc.2.1.name = "<init>" ∧ yc.2.2.2.2 = none
theorem kv_arity {ds : String} {N : Nat} (h : (parseMethodDescriptor ds).map (fun d => d.parameters.length) = some N) : ∀ sig, parseMethodDescriptor ds = some sig → N = sig.parameters.length := by
  intro sig hs
  rw [hs] at h
  exact (Option.some.inj h).symm
theorem kv_wd_good {yc : kv_M} (h : Cond.code yc.2.1 yc.2.2.1 yc.2.2.2.1 yc.2.2.2.2 ∈ kv_tb) : GoodIn kv_tb (kv_wd yc) := by
  intro w hw
  rcases List.mem_cons.mp hw with rfl | hw
  · exact kv_tb_good _ h
  · exact kv_tb_good _ hw
section KVC
variable {y : kv_M} {d : Nat} {B : kv_B} {Q : kv_Q} {kc ks n : Nat} {S : kv_SM} {I : kv_IM} {pc : Nat} {L : List (Nat × Value)} {st : List Value}
theorem kv_runW {p : Program} {l : Launch} {e : Env} {R : Room} {s : State} {m : MethodId} {args : Array Value} {below : List Frame} {meth : Method} {c : Code} {D : va_G} {cA : Nat → ClassId} {Z : State → Prop} {mc ms : Nat} {H : Heap} {locs : List Loc} {cells slots kcc ksc : Nat} {ls : Array Slot} {st0 rest : List Value} {Qy : kv_Q} {a : Array Value} (C : kv_C y d B Q p l e R s m args below meth c D cA Z mc ms) (hH : H[B.2.1]? = s.heap[B.2.1]?) (hq' : ∀ q ∈ locs, B.1 ≤ q.base) (hc : cells + kc ≤ mc) (hs : slots + ks ≤ ms) (hl : lv_has ls y.2.2.2.1 L) (h1 : kcc ≤ kc) (h2 : ksc ≤ ks)
    (hr : va_Run p l e R s m args below meth c H locs cells slots kcc ksc (F0 m pc ls st0) rest (kv_Qc B Qy D cA a) (fun q => B.1 ≤ q))
    (kk : ∀ v n' S' I', Qy v n' S' I' → kv_V y d B Q (kc - kcc) (ks - ksc) n' S' I' (pc + 3) L (v.toList ++ rest)) : W p l e R s m args below meth c H locs cells slots Z (F0 m pc ls st0) := by
  intro T hT X
  obtain ⟨v, st₀, t, T', LL, h0, X', hL, e1, e2, ⟨v', n', S', I', hv, hQ, hR', hH'⟩, stp⟩ := hr T hT X
  cases hv
  have hK := kk v n' S' I' hQ p l e R s m args below meth c D cA Z mc ms C T'.heap (locs ++ LL) (cells + kcc) (slots + ksc) ls (by rw [e1]; exact hR') (by rw [e1, hH', h0]; exact hH) (fun q hq => by
    rcases List.mem_append.mp hq with h | h
    · exact hq' q h
    · exact hL q h) (by omega) (by omega) hl
  obtain ⟨t2, a1, b1⟩ := hK T' rfl X'
  exact ⟨t2, stp t2 a1, b1⟩
theorem kv_callS {yc : kv_M} {idx dc kcc ksc : Nat} (As rest : List Value) {Qy : kv_Q} (hlk : kv_LS y.1 idx yc As.length) (hM : kv_T yc dc kcc ksc B As n S I Qy) (hd : decode y.2.2.1 pc = .ok (.invokestatic idx, 3)) (hst : st = As.reverse ++ rest) (hdep : dc + 1 ≤ d) (hw : (rest.map fun v => v.category).sum ≤ 8) (h1 : kcc ≤ kc) (h2 : ksc ≤ ks)
    (kk : ∀ v n' S' I', Qy v n' S' I' → kv_V y d B Q (kc - kcc) (ks - ksc) n' S' I' (pc + 3) L (v.toList ++ rest)) : kv_V y d B Q kc ks n S I pc L st := by
  intro p l e R s m args below meth c D cA Z mc ms C H locs cells slots ls hR hH hq' hc hs hl
  obtain ⟨⟨g1, g2, g3, g4, g5⟩, glk, gst⟩ := hlk
  obtain ⟨k1, k2, k3, k4, hts, hnw, hK, ⟨kd1, kd2, kd3, kd4⟩, -, ⟨kb, kX⟩, -⟩ := id C
  have hpre : PreS s H (kv_Pc As B n S I D cA) As := ⟨kv_Pc_blind, fun U hU hW => kv_Pc_at hU hW hK hR hnw kb kX hH⟩
  refine kv_runW C hH hq' hc hs hl h1 h2 (a := As.toArray) (rest := rest) ?_ kk
  rcases glk with glk | ⟨host, glk⟩
  · exact va_runS (bytes := yc.2.2.1) (maxL := yc.2.2.2.1) (ret := yc.2.2.2.2) ⟨k1, k2, k3, k4, hts⟩ (hM l D cA) ⟨⟨rfl, rfl, by show dc + 1 ≤ _; omega, by show 8 + (_ + 11) + 36 * dc ≤ _; omega, pay_in hts (kv_wd_good g1), List.mem_cons_self, hts _ g1, hts _ g2, g3, kv_arity g4, hts _ glk⟩, hts _ gst⟩ hpre rfl rfl hl.1 hst (lv_room hw) hd ⟨by omega, by omega⟩
  · exact va_runSN (bytes := yc.2.2.1) (maxL := yc.2.2.2.1) (ret := yc.2.2.2.2) ⟨k1, k2, k3, k4, hts⟩ (hM l D cA) ⟨⟨⟨rfl, rfl, by show dc + 1 ≤ _; omega, by show 8 + (_ + 11) + 36 * dc ≤ _; omega, pay_in hts (kv_wd_good g1), List.mem_cons_self⟩, hts _ g1, hts _ g2, g3, kv_arity g4, va_Nw.use rfl (hnw.1 _ glk)⟩, hts _ gst, trivial⟩ hpre rfl rfl hl.1 hst (lv_room hw) hd ⟨by omega, by omega⟩
theorem kv_callV {yc : kv_M} {idx dc kcc ksc ci b : Nat} {r : Nat → Option Nat} (As rest : List Value) {Qy : kv_Q} (hlk : kv_LV y.1 idx yc As.length ci) (hS : S b = kO ci r) (hM : kv_T yc dc kcc ksc B (.ref b :: As) n S I Qy) (hd : decode y.2.2.1 pc = .ok (.invokevirtual idx, 3)) (hst : st = As.reverse ++ .ref b :: rest) (hdep : dc + 1 ≤ d) (hw : (rest.map fun v => v.category).sum ≤ 8) (h1 : kcc ≤ kc) (h2 : ksc ≤ ks)
    (kk : ∀ v n' S' I', Qy v n' S' I' → kv_V y d B Q (kc - kcc) (ks - ksc) n' S' I' (pc + 3) L (v.toList ++ rest)) : kv_V y d B Q kc ks n S I pc L st := by
  intro p l e R s m args below meth c D cA Z mc ms C H locs cells slots ls hR hH hq' hc hs hl
  obtain ⟨⟨g1, g2, g3, g4, g5⟩, glk, gin, q, gq, gsel⟩ := hlk
  obtain ⟨k1, k2, k3, k4, hts, hnw, hK, ⟨kd1, kd2, kd3, kd4⟩, -, ⟨kb, kX⟩, -⟩ := id C
  obtain ⟨i1, i2⟩ := hR.inO hS
  have he : (kv_ws B.1 n cA S I)[b - B.1]? = some (b, .inr (ci, kv_fs (kv_flags ci) r (I b))) := by
    have h := kv_ws_get (cA := cA) (S := S) (I := I) i1 i2
    rw [hS] at h
    exact h
  have hpre : PreV s H q.1 b (kv_Pc (.ref b :: As) B n S I D cA) As := ⟨kv_Pc_blind, va_recv hK hR.2.1 gq he, fun U hU hW => kv_Pc_at hU hW hK hR hnw kb kX hH⟩
  refine kv_runW C hH hq' hc hs hl h1 h2 (a := (Value.ref b :: As).toArray) (rest := rest) ?_ kk
  rcases glk with glk | ⟨host, glk⟩
  · exact va_runV (bytes := yc.2.2.1) (maxL := yc.2.2.2.1) (ret := yc.2.2.2.2) ⟨k1, k2, k3, k4, hts⟩ (hM l D cA) ⟨⟨rfl, rfl, by show dc + 1 ≤ _; omega, by show 8 + (_ + 11) + 36 * dc ≤ _; omega, pay_in hts (kv_wd_good g1), List.mem_cons_self, hts _ g1, hts _ g2, g3, kv_arity g4, hts _ glk⟩, hts _ gin, hts _ gsel⟩ hpre rfl rfl hl.1 hst (lv_room hw) hd ⟨by omega, by omega⟩
  · exact va_runVN (bytes := yc.2.2.1) (maxL := yc.2.2.2.1) (ret := yc.2.2.2.2) ⟨k1, k2, k3, k4, hts⟩ (hM l D cA) ⟨⟨⟨rfl, rfl, by show dc + 1 ≤ _; omega, by show 8 + (_ + 11) + 36 * dc ≤ _; omega, pay_in hts (kv_wd_good g1), List.mem_cons_self⟩, hts _ g1, hts _ g2, g3, kv_arity g4, va_Nw.use rfl (hnw.1 _ glk)⟩, hts _ gin, hts _ gsel⟩ hpre rfl rfl hl.1 hst (lv_room hw) hd ⟨by omega, by omega⟩
theorem kv_callI {yc : kv_M} {idx dc kcc ksc b : Nat} (As rest : List Value) {Qy : kv_Q} (hlk : kv_LI y.1 idx yc As.length) (hM : kv_T yc dc kcc ksc B (.ref b :: As) n S I Qy) (hd : decode y.2.2.1 pc = .ok (.invokespecial idx, 3)) (hst : st = As.reverse ++ .ref b :: rest) (hdep : dc + 1 ≤ d) (hw : (rest.map fun v => v.category).sum ≤ 8) (h1 : kcc ≤ kc) (h2 : ksc ≤ ks)
    (kk : ∀ v n' S' I', Qy v n' S' I' → kv_V y d B Q (kc - kcc) (ks - ksc) n' S' I' (pc + 3) L (v.toList ++ rest)) : kv_V y d B Q kc ks n S I pc L st := by
  intro p l e R s m args below meth c D cA Z mc ms C H locs cells slots ls hR hH hq' hc hs hl
  obtain ⟨⟨g1, g2, g3, g4, g5⟩, glk, gin, gnm, grt⟩ := hlk
  obtain ⟨k1, k2, k3, k4, hts, hnw, hK, ⟨kd1, kd2, kd3, kd4⟩, -, ⟨kb, kX⟩, -⟩ := id C
  rw [grt] at g1
  have hpre : PreS s H (kv_Pc (.ref b :: As) B n S I D cA) (.ref b :: As) := ⟨kv_Pc_blind, fun U hU hW => kv_Pc_at hU hW hK hR hnw kb kX hH⟩
  have hgd : GoodIn kv_tb (kv_wd yc) := kv_wd_good (by rw [grt]; exact g1)
  have hcd : Cond.code yc.2.1 yc.2.2.1 yc.2.2.2.1 none ∈ kv_wd yc := by unfold kv_wd; rw [grt]; exact List.mem_cons_self
  refine kv_runW C hH hq' hc hs hl h1 h2 (a := (Value.ref b :: As).toArray) (rest := rest) ?_ kk
  rcases glk with glk | ⟨host, glk⟩
  · exact va_runI (bytes := yc.2.2.1) (maxL := yc.2.2.2.1) ⟨k1, k2, k3, k4, hts⟩ (hM l D cA) ⟨⟨rfl, rfl, by show dc + 1 ≤ _; omega, by show 8 + (_ + 11) + 36 * dc ≤ _; omega, pay_in hts hgd, hcd, hts _ g1, hts _ g2, g3, kv_arity g4, hts _ glk⟩, gnm, hts _ gin⟩ hpre rfl rfl hl.1 hst (lv_room hw) hd ⟨by omega, by omega⟩
  · exact va_runIN (bytes := yc.2.2.1) (maxL := yc.2.2.2.1) ⟨k1, k2, k3, k4, hts⟩ (hM l D cA) ⟨⟨⟨rfl, rfl, by show dc + 1 ≤ _; omega, by show 8 + (_ + 11) + 36 * dc ≤ _; omega, pay_in hts hgd, hcd⟩, hts _ g1, hts _ g2, g3, kv_arity g4, va_Nw.use rfl (hnw.1 _ glk)⟩, gnm, hts _ gin⟩ hpre rfl rfl hl.1 hst (lv_room hw) hd ⟨by omega, by omega⟩
theorem kv_objInit {idx a : Nat} (h1 : Cond.methodLink y.1 idx objectInit ∈ kv_tb) (h2 : Cond.instanceMethod objectInit ∈ kv_tb) (h3 : Cond.code objectInit ⟨#[0xb1]⟩ 1 none ∈ kv_tb) (hd : decode y.2.2.1 pc = .ok (.invokespecial idx, 3)) (hdep : 1 ≤ d) (hw : (st.map fun v => v.category).sum ≤ 8)
    (kk : kv_V y d B Q kc ks n S I (pc + 3) L st) : kv_V y d B Q kc ks n S I pc L (.ref a :: st) := by
  intro p l e R s m args below meth c D cA Z mc ms C H locs cells slots ls hR hH hq' hc hs hl
  obtain ⟨k1, k2, k3, k4, hts, hnw, hK, ⟨kd1, kd2, kd3, kd4⟩, -, ⟨kb, kX⟩, -⟩ := id C
  refine W.objInit C.1 C.2.1 k4 (hts _ h1) (hts _ h2) (hts _ h3) rfl (by rw [k3]; exact hl.1) rfl hd (by omega) (by show 2 * 0 + _ + 12 ≤ _; omega) ?_
  exact kk p l e R s m args below meth c D cA Z mc ms C H locs cells slots ls hR hH hq' hc hs hl
theorem kv_mmin {idx : Nat} {x z : Int32} (h1 : Cond.methodLink y.1 idx Lib.Math.min.name ∈ kv_tb) (h2 : Cond.static Lib.Math.min.name ∈ kv_tb) (h3 : Cond.initialized "java/lang/Math" ∈ kv_tb) (h4 : Cond.code Lib.Math.min.name Lib.Math.min.code 2 (some .int) ∈ kv_tb) (hd : decode y.2.2.1 pc = .ok (.invokestatic idx, 3)) (hdep : 1 ≤ d) (hw : (st.map fun v => v.category).sum ≤ 8)
    (kk : kv_V y d B Q kc ks n S I (pc + 3) L (.int (if z < x then z else x) :: st)) : kv_V y d B Q kc ks n S I pc L (.int z :: .int x :: st) := by
  intro p l e R s m args below meth c D cA Z mc ms C H locs cells slots ls hR hH hq' hc hs hl
  obtain ⟨k1, k2, k3, k4, hts, hnw, hK, ⟨kd1, kd2, kd3, kd4⟩, -, ⟨kb, kX⟩, -⟩ := id C
  exact va_mmin C.1 C.2.1 (by rw [k3]; exact hl.1.symm) k4 (hts _ h1) (hts _ h2) (hts _ h3) (hts _ h4) (by omega) (by omega) (by omega) (by omega) hd (kk p l e R s m args below meth c D cA Z mc ms C H locs cells slots ls hR hH hq' hc hs hl)
theorem kv_mmax {idx : Nat} {x z : Int32} (h1 : Cond.methodLink y.1 idx Lib.Math.max.name ∈ kv_tb) (h2 : Cond.static Lib.Math.max.name ∈ kv_tb) (h3 : Cond.initialized "java/lang/Math" ∈ kv_tb) (h4 : Cond.code Lib.Math.max.name Lib.Math.max.code 2 (some .int) ∈ kv_tb) (hd : decode y.2.2.1 pc = .ok (.invokestatic idx, 3)) (hdep : 1 ≤ d) (hw : (st.map fun v => v.category).sum ≤ 8)
    (kk : kv_V y d B Q kc ks n S I (pc + 3) L (.int (if x < z then z else x) :: st)) : kv_V y d B Q kc ks n S I pc L (.int z :: .int x :: st) := by
  intro p l e R s m args below meth c D cA Z mc ms C H locs cells slots ls hR hH hq' hc hs hl
  obtain ⟨k1, k2, k3, k4, hts, hnw, hK, ⟨kd1, kd2, kd3, kd4⟩, -, ⟨kb, kX⟩, -⟩ := id C
  exact va_mmax C.1 C.2.1 (by rw [k3]; exact hl.1.symm) k4 (hts _ h1) (hts _ h2) (hts _ h3) (hts _ h4) (by omega) (by omega) (by omega) (by omega) hd (kk p l e R s m args below meth c D cA Z mc ms C H locs cells slots ls hR hH hq' hc hs hl)
end KVC
end
section
theorem kv_R.push {b n : Nat} {D : va_G} {cA : Nat → ClassId} {S : kv_SM} {I : kv_IM} {H H1 : Heap} (h : kv_R b n D cA S I H) {x : kv_Sh} {f : Nat → Int32} (z1 : H1.size = b + n + 1) (o1 : ∀ q, q < b + n → H1[q]? = H[q]?) (he : va_at D vwCl (b + n, kv_e cA x f) H1) : kv_R b (n + 1) D cA (kv_su S (b + n) x) (kv_iu I (b + n) f) H1 := by
  refine ⟨by omega, fun k q hk => ?_, fun a ha => ?_⟩
  · obtain ⟨hk1, rfl⟩ := kv_ws_mem hk
    by_cases hkn : k = n
    · subst hkn
      have e1 : kv_su S (b + k) x (b + k) = x := by simp [kv_su]
      have e2 : kv_iu I (b + k) f (b + k) = f := by simp [kv_iu]
      rw [e1, e2]
      exact he
    · have e1 : kv_su S (b + n) x (b + k) = S (b + k) := by simp [kv_su, hkn]
      have e2 : kv_iu I (b + n) f (b + k) = I (b + k) := by simp [kv_iu, hkn]
      rw [e1, e2]
      exact (h.at (a := b + k) (by omega) (by omega)).kept (o1 _ (show b + k < b + n by omega))
  · have e1 : kv_su S (b + n) x a = S a := by
      unfold kv_su
      rw [if_neg (by omega)]
    rw [e1]
    exact h.2.2 a (by omega)
def kv_NW (own : String) (idx ci N : Nat) : Prop := ∃ (C : String) (T : u_T) (ty0 : Nat → FieldType), vwCl[ci]? = some (C, T, N) ∧ (∀ w ∈ u_ws C T N, w ∈ kv_tb) ∧ (∀ j, j < N → parseFieldDescriptor (T j).2.2.1 = some (ty0 j)) ∧ (∀ j, j < N → defaultValue (ty0 j) = vp_V (kv_fs (kv_flags ci) (fun _ => none) (fun _ => 0)) j) ∧ Cond.classLink own idx C ∈ kv_tb ∧ Cond.instantiable C N ∈ kv_tb ∧ Cond.initialized C ∈ kv_tb
section KVA
variable {y : kv_M} {d : Nat} {B : kv_B} {Q : kv_Q} {kc ks n : Nat} {S : kv_SM} {I : kv_IM} {pc : Nat} {L : List (Nat × Value)} {st : List Value}
theorem kv_new {idx ci N : Nat} (F : kv_NW y.1 idx ci N) (hd : decode y.2.2.1 pc = .ok (.new idx, 3)) (h1 : 1 ≤ kc) (h2 : N ≤ ks)
    (kk : kv_V y d B Q (kc - 1) (ks - N) (n + 1) (kv_su S (B.1 + n) (kO ci (fun _ => none))) (kv_iu I (B.1 + n) (fun _ => 0)) (pc + 3) L (.ref (B.1 + n) :: st)) : kv_V y d B Q kc ks n S I pc L st := by
  intro p l e R s m args below meth c D cA Z mc ms C H locs cells slots ls hR hH hq' hc hs hl
  obtain ⟨C0, T, ty0, g1, g2, g3, g4, g5, g6, g7⟩ := F
  obtain ⟨k1, k2, k3, k4, hts, hnw, hK, ⟨kd1, kd2, kd3, kd4⟩, -, ⟨kb, kX⟩, -⟩ := id C
  have hKn := hK.1 ci _ g1
  refine W.newcK C.1 C.2.1 k4 (hts _ g5) (hts _ g6) (hts _ g7) rfl hd (by omega) (by omega) hKn.2.1 hR.1 fun H1 kC hkC e1 z1 o1 => ?_
  refine kk p l e R s m args below meth c D cA Z mc ms C H1 locs (cells + 1) (slots + N) ls (hR.push z1 o1 ⟨_, g1, (u_born ty0 hts g2 hKn hkC e1 g3).to g4⟩) ?_ hq' (by omega) (by omega) hl
  rw [o1 _ (by omega)]
  exact hH
theorem kv_newI {x : Int32} (N : Nat) (harr : Cond.arrayClass .int ∈ kv_tb) (hd : decode y.2.2.1 pc = .ok (.newarray .int, 2)) (hx : x = nI N) (hN : N < 100000000) (h1 : 1 ≤ kc) (h2 : N ≤ ks)
    (kk : kv_V y d B Q (kc - 1) (ks - N) (n + 1) (kv_su S (B.1 + n) (kI N)) (kv_iu I (B.1 + n) (fun _ => 0)) (pc + 2) L (.ref (B.1 + n) :: st)) : kv_V y d B Q kc ks n S I pc L (.int x :: st) := by
  intro p l e R s m args below meth c D cA Z mc ms C H locs cells slots ls hR hH hq' hc hs hl
  obtain ⟨k1, k2, k3, k4, hts, hnw, hK, ⟨kd1, kd2, kd3, kd4⟩, -, ⟨kb, kX⟩, -⟩ := id C
  subst hx
  refine va_newaK C.1 C.2.1 (atype := .int) (hts _ harr) rfl hd rfl (nI_pos (by omega)) (N := N) (nI_clamp (by omega)) (by show N * 4 ≤ 536870912; omega) (by omega) (by omega) hR.1 fun H1 cA' e1 z1 o1 hAr hNm => ?_
  have hcA : cA' = cA 0 := by
    have h3 : s.vm.findClass ("[" ++ FieldType.int.toString) = some (cA 0) := (hK.2 0 _ rfl).2
    exact Option.some.inj (hNm.symm.trans h3)
  subst hcA
  refine kk p l e R s m args below meth c D cA Z mc ms C H1 locs (cells + 1) (slots + N) ls (hR.push z1 o1 e1) ?_ hq' (by omega) (by omega) hl
  rw [o1 _ (by omega)]
  exact hH
theorem kv_newA {x : Int32} {idx ci t0 : Nat} {Cn : String} (N : Nat) (ht : ∀ cA : Nat → ClassId, (kv_tys cA)[t0]? = some (cA (ci + 2), FieldType.object Cn)) (hao : Cn ∈ kv_ao) (hcl : Cond.classLink y.1 idx Cn ∈ kv_tb) (hd : decode y.2.2.1 pc = .ok (.anewarray idx, 3)) (hx : x = nI N) (hN : N < 100000000) (h1 : 1 ≤ kc) (h2 : N ≤ ks)
    (kk : kv_V y d B Q (kc - 1) (ks - N) (n + 1) (kv_su S (B.1 + n) (kA ci N (fun _ => none))) (kv_iu I (B.1 + n) (fun _ => 0)) (pc + 3) L (.ref (B.1 + n) :: st)) : kv_V y d B Q kc ks n S I pc L (.int x :: st) := by
  intro p l e R s m args below meth c D cA Z mc ms C H locs cells slots ls hR hH hq' hc hs hl
  obtain ⟨k1, k2, k3, k4, hts, hnw, hK, ⟨kd1, kd2, kd3, kd4⟩, -, ⟨kb, kX⟩, -⟩ := id C
  subst hx
  have hcl0 := nI_clamp (n := N) (by omega)
  refine W.anew C.1 C.2.1 k4 (hts _ hcl) (va_AO.use (hnw.2 _ hao)) rfl hd rfl (nI_pos (by omega)) (by rw [hcl0]; omega) (by omega) (by rw [hcl0]; omega) fun cA' kA comp f1 f2 f3 f4 => ?_
  have hcA : cA' = cA (ci + 2) := by
    obtain ⟨-, -, -, -, -, h3⟩ := (hK.2 t0 _ (ht cA)).2
    exact Option.some.inj (f1.symm.trans h3)
  subst hcA
  rw [hcl0, hR.1]
  refine kk p l e R s m args below meth c D cA Z mc ms C _ locs (cells + 1) (slots + N) ls (hR.push ?_ ?_ ?_) ?_ hq' (by omega) (by omega) hl
  · rw [Array.size_push, hR.1]
  · intro q hq
    rw [Array.getElem?_push, if_neg (by rw [hR.1]; omega)]
  · show (H.push _)[B.1 + n]? = some (arrV (cA (ci + 2)) N (fun _ => Value.null))
    rw [← hR.1, Array.getElem?_push_size, ← arrV_new]
  · rw [Array.getElem?_push, if_neg (by rw [hR.1]; omega)]
    exact hH
theorem kv_aast {a ci m' v : Nat} {r rv : Nat → Option Nat} {i : Int32} (j : Nat) {q : vw_C} (hd : decode y.2.2.1 pc = .ok (.aastore, 1)) (hS : S a = kA ci m' r) (hv : S v = kO ci rv) (hq0 : vwCl[ci]? = some q) (ht : ∃ t0 : Nat, ∀ cA : Nat → ClassId, (kv_tys cA)[t0]? = some (cA (ci + 2), FieldType.object q.1)) (hi : i = nI j) (hj : j < m') (hm : m' < 2 ^ 31)
    (kk : kv_V y d B Q kc ks n (kv_su S a (kA ci m' (kv_ru r j (some v)))) I (pc + 1) L st) : kv_V y d B Q kc ks n S I pc L (.ref v :: .int i :: .ref a :: st) := by
  intro p l e R s m args below meth c D cA Z mc ms C H locs cells slots ls hR hH hq' hc hs hl
  obtain ⟨i1, i2⟩ := hR.inA hS
  obtain ⟨j1, j2⟩ := hR.inO hv
  have he : (kv_ws B.1 n cA S I)[a - B.1]? = some (a, .inl (cA (ci + 2), m', .inr (.inr (.inr (.inr r))))) := by
    have h := kv_ws_get (cA := cA) (S := S) (I := I) i1 i2
    rw [hS] at h
    exact h
  have hev : (kv_ws B.1 n cA S I)[v - B.1]? = some (v, .inr (ci, kv_fs (kv_flags ci) rv (I v))) := by
    have h := kv_ws_get (cA := cA) (S := S) (I := I) j1 j2
    rw [hv] at h
    exact h
  subst hi
  obtain ⟨t0, ht⟩ := ht
  have hK := C.2.2.2.2.2.2.1
  have hP := hR.2.1
  obtain ⟨r', hr', cellV, g1, g2, g3, -⟩ := hP _ _ hev
  have hcls := (hK.1 ci q hq0).2
  obtain ⟨kA0, comp, k1, k2, k3, -⟩ := (hK.2 t0 _ (ht cA)).2
  have hcomp : comp = D.1 ci := Option.some.inj (k3.symm.trans hcls.1)
  subst hcomp
  obtain ⟨kC, hkC, -⟩ := hcls.2
  refine W.aast C.1 C.2.1 (hP _ _ he) (fun q h => by cases h) (fun h => by cases h) k1 k2 rfl hkC ⟨nI_pos (by omega), by show _ < (arrV _ _ _).slots.size; rw [arrV_size, nI_clamp (by omega)]; exact hj⟩ g1 (fun q h => by rw [g3] at h; cases h) (by rw [g2]; exact hkC) (by rw [g2]; exact va_assign hcls) rfl rfl hd fun H1 e1 z oq0 => ?_
  have oq : ∀ q : Nat, q ≠ a → H1[q]? = H[q]? := oq0
  rw [nI_clamp (by omega)] at e1 ⊢
  have hP' : va_P D vwCl ((kv_ws B.1 n cA S I).set (a - B.1) (a, .inl (cA (ci + 2), m', .inr (.inr (.inr (.inr (kv_ru r j (some v)))))))) H1 := by
    refine hP.set kv_ws_D he ?_ oq
    show H1[a]? = some (vp_cell _ _)
    rw [e1]
    rw [vp_cell_q, vp_cell_q, arrV_store]
    congr 2
    funext q
    by_cases hq : q = j
    · subst hq
      simp [updV, kv_ru, va_rf]
    · simp [updV, kv_ru, hq]
  refine kk p l e R s m args below meth c D cA Z mc ms C H1 _ cells slots ls (hR.set i1 i2 z hP' ?_ (fun q hq => ⟨?_, rfl⟩)) ?_ ?_ hc hs hl
  · have e2 : kv_su S a (kA ci m' (kv_ru r j (some v))) a = kA ci m' (kv_ru r j (some v)) := by simp [kv_su]
    rw [e2]
    rfl
  · simp [kv_su, hq]
  · rw [oq _ (by have := C.2.2.2.2.2.2.2.2.2.1.1; omega)]
    exact hH
  · intro q hq
    rcases List.mem_append.mp hq with h | h
    · exact hq' q h
    · rw [List.mem_singleton.mp h]
      exact i1
theorem kv_copy {idx a0 a1 n0 n1 : Nat} {xs xd xn : Int32} (sp dp N : Nat) (h1 : Cond.methodLink y.1 idx arraycopyName ∈ kv_tb) (h2 : Cond.native arraycopyName ∈ kv_tb) (h3 : Cond.static arraycopyName ∈ kv_tb) (h4 : Cond.initialized "java/lang/System" ∈ kv_tb) (hd : decode y.2.2.1 pc = .ok (.invokestatic idx, 3)) (hdep : 1 ≤ d) (hw : (st.map fun v => v.category).sum ≤ 8)
    (hS0 : S a0 = kI n0) (hS1 : S a1 = kI n1) (z0 : 0 < n0) (z1 : 0 < n1) (m0 : n0 < 2 ^ 30) (m1 : n1 < 2 ^ 30) (es : xs = nI sp) (ed : xd = nI dp) (en : xn = nI N) (b0 : sp + N ≤ n0) (b1 : dp + N ≤ n1)
    (kk : kv_V y d B Q kc ks n S (kv_cp I a0 a1 sp dp N) (pc + 3) L st) : kv_V y d B Q kc ks n S I pc L (.int xn :: .int xd :: .ref a1 :: .int xs :: .ref a0 :: st) := by
  intro p l e R s m args below meth c D cA Z mc ms C H locs cells slots ls hR hH hq' hc hs hl
  obtain ⟨k1, k2, k3, k4, hts, hnw, hK, ⟨kd1, kd2, kd3, kd4⟩, -, ⟨kb, kX⟩, -⟩ := id C
  obtain ⟨i1, i2⟩ := hR.inI hS1 z1
  obtain ⟨j1, j2⟩ := hR.inI hS0 z0
  have he : (kv_ws B.1 n cA S I)[a1 - B.1]? = some (a1, .inl (cA 0, n1, .inl (I a1))) := by
    have h := kv_ws_get (cA := cA) (S := S) (I := I) i1 i2
    rw [hS1] at h
    exact h
  have he0 : (kv_ws B.1 n cA S I)[a0 - B.1]? = some (a0, .inl (cA 0, n0, .inl (I a0))) := by
    have h := kv_ws_get (cA := cA) (S := S) (I := I) j1 j2
    rw [hS0] at h
    exact h
  subst es ed en
  have hP := hR.2.1
  have c1 := nI_clamp (n := sp) (by omega)
  have c2 := nI_clamp (n := dp) (by omega)
  have c3 := nI_clamp (n := N) (by omega)
  have t1 := nI_toInt (n := sp) (by omega)
  have t2 := nI_toInt (n := dp) (by omega)
  have t3 := nI_toInt (n := N) (by omega)
  intro T hT X
  have hc0 : H[a0]? = some (vp_cell (cA 0) (n0, .inl (I a0))) := hP _ _ he0
  have hc1 : H[a1]? = some (vp_cell (cA 0) (n1, .inl (I a1))) := hP _ _ he
  obtain ⟨-, kk0, hk0, cm0, hkk0⟩ := (hK.2 0 _ rfl).1 n0 (fun j => .int (I a0 j))
  obtain ⟨vm', X', step⟩ := X.arraycopy C.1 k4 (hts _ h1) (hts _ h2) (hts _ h3) (hts _ h4) (src := a0) (dst := a1) (cs := vp_cell (cA 0) (n0, .inl (I a0))) (cd := vp_cell (cA 0) (n1, .inl (I a1))) (srcPos := nI sp) (destPos := nI dp) (n := nI N) (by rw [hT]; exact hc0) (by rw [hT]; exact hc1)
    (fun _ h => by cases h) (fun _ h => by cases h) (fun h => by cases h) (fun h => by cases h) hk0 hk0 hkk0 hkk0 (by simp [refKind]) (nI_pos (by omega)) (nI_pos (by omega)) (nI_pos (by omega))
    (by rw [t1, t3]; show ¬ _ > ((arrV _ n0 (fun j => .int (I a0 j))).slots.size : Int); rw [arrV_size]; omega)
    (by rw [t2, t3]; show ¬ _ > ((arrV _ n1 (fun j => .int (I a1 j))).slots.size : Int); rw [arrV_size]; omega)
    (fun vm₁ _ i hi => by
      rw [c3] at hi
      have e : (vp_cell (cA 0) (n0, .inl (I a0))).slots.getD ((nI sp).toNatClampNeg + i) .null = .int (I a0 ((nI sp).toNatClampNeg + i)) := by
        show (arrV _ n0 (fun j => .int (I a0 j))).slots.getD _ _ = _
        rw [Array.getD_eq_getD_getElem?, arrV_read _ _ (by rw [c1]; omega)]
        rfl
      refine ⟨?_, ?_⟩
      · rw [e]
        rfl
      · rw [e]
        exact trivial)
    (g := F0 m pc ls (.int (nI N) :: .int (nI dp) :: .ref a1 :: .int (nI sp) :: .ref a0 :: st)) rfl (by rw [k3]; exact hl.1) (rest := st) rfl (by rw [k2]; exact hd) (by omega) (by
      have : nativeFrameWords "java/lang/System" "arraycopy" 5 + 11 ≤ 28 := by decide
      show 2 * 0 + _ + _ ≤ _; omega)
  have e1 : copied (vp_cell (cA 0) (n0, .inl (I a0))) (vp_cell (cA 0) (n1, .inl (I a1))) (nI sp) (nI dp) (nI N) = vp_cell (cA 0) (n1, .inl (va_cpy (I a0) (I a1) sp dp N)) := by
    have h := va_copied (fun z => .int z) (cA 0) (cA 0) (n0 := n0) (n1 := n1) (sp := (nI sp).toNatClampNeg) (dp := (nI dp).toNatClampNeg) (n := (nI N).toNatClampNeg) (I a0) (I a1) (by rw [c1, c3]; exact b0)
    rw [c1, c2, c3] at h
    have h' : copied (vp_cell (cA 0) (n0, .inl (I a0))) (vp_cell (cA 0) (n1, .inl (I a1))) (nI sp) (nI dp) (nI N) = (arrV (cA 0) n1 (fun j => .int (I a1 j))).storeRun (nI dp).toNatClampNeg ((arrV (cA 0) n0 (fun j => .int (I a0 j))).stretch (nI sp).toNatClampNeg (nI N).toNatClampNeg) := rfl
    rw [h', c1, c2, c3]
    exact h
  rw [e1] at X' step
  have hlt : a1 < H.size := (Array.getElem?_eq_some_iff.mp hc1).1
  have hheap : ((T.setVm vm').setCell a1 (vp_cell (cA 0) (n1, .inl (va_cpy (I a0) (I a1) sp dp N)))).heap = H.setIfInBounds a1 (vp_cell (cA 0) (n1, .inl (va_cpy (I a0) (I a1) sp dp N))) := by rw [← hT]; rfl
  have oq : ∀ q : Nat, q ≠ a1 → (H.setIfInBounds a1 (vp_cell (cA 0) (n1, .inl (va_cpy (I a0) (I a1) sp dp N))))[q]? = H[q]? := fun q hq => by simp [Array.getElem?_setIfInBounds, Ne.symm hq]
  have hP' := hP.set kv_ws_D he (e := .inl (cA 0, n1, .inl (va_cpy (I a0) (I a1) sp dp N))) (H1 := H.setIfInBounds a1 (vp_cell (cA 0) (n1, .inl (va_cpy (I a0) (I a1) sp dp N)))) (show (H.setIfInBounds a1 _)[a1]? = some _ by simp [Array.getElem?_setIfInBounds, hlt]) oq
  obtain ⟨t, a2, b2⟩ := kk p l e R s m args below meth c D cA Z mc ms C _ _ cells slots ls (hR.set (S' := S) (I' := kv_cp I a0 a1 sp dp N) i1 i2 (by simp) hP' (by
      rw [hS1]
      have hf : kv_cp I a0 a1 sp dp N a1 = va_cpy (I a0) (I a1) sp dp N := by
        funext q
        simp [kv_cp]
      show Sum.inl (cA 0, n1, Sum.inl (kv_cp I a0 a1 sp dp N a1)) = _
      rw [hf]) (fun q hq => ⟨rfl, by funext j; simp [kv_cp, hq]⟩)) (by
      rw [oq _ (by omega)]
      exact hH) (fun q hq => by
      rcases List.mem_append.mp hq with h | h
      · exact hq' q h
      · obtain ⟨z, -, hz⟩ := List.mem_map.mp h
        rw [← hz]
        exact i1) hc hs hl _ hheap X'
  exact ⟨t, step t a2, b2⟩
end KVA
end
section
abbrev y_Cb_init : kv_M := ("CutBlocks", ⟨"CutBlocks", "<init>", "()V"⟩, prog_1_method_1_code, 2, none)
abbrev y_Rul_init : kv_M := ("CutBlocks$Rules", ⟨"CutBlocks$Rules", "<init>", "()V"⟩, prog_3_method_1_code, 1, none)
abbrev y_Rul_sow : kv_M := ("CutBlocks$Rules", ⟨"CutBlocks$Rules", "sow", "(I)V"⟩, prog_3_method_4_code, 4, none)
abbrev y_Rul_take : kv_M := ("CutBlocks$Rules", ⟨"CutBlocks$Rules", "take", "(IIIIII)V"⟩, prog_3_method_3_code, 7, none)
abbrev y_Txt_init : kv_M := ("CutBlocks$Text", ⟨"CutBlocks$Text", "<init>", "()V"⟩, prog_6_method_1_code, 1, none)
abbrev y_Row_init : kv_M := ("CutBlocks$Row", ⟨"CutBlocks$Row", "<init>", "(II)V"⟩, prog_2_method_1_code, 3, none)
abbrev y_Row_unchain : kv_M := ("CutBlocks$Row", ⟨"CutBlocks$Row", "unchain", "()V"⟩, prog_2_method_8_code, 1, none)
abbrev y_Arr_fill : kv_M := ("java/util/Arrays", ⟨"java/util/Arrays", "fill", "([II)V"⟩, prog_11_method_103_code, 4, none)
abbrev y_Sto_init : kv_M := ("CutBlocks$Store", ⟨"CutBlocks$Store", "<init>", "()V"⟩, prog_5_method_1_code, 2, none)
abbrev y_Snp_init : kv_M := ("CutBlocks$Snapshot", ⟨"CutBlocks$Snapshot", "<init>", "()V"⟩, prog_4_method_1_code, 1, none)
abbrev y_Cb_seed : kv_M := ("CutBlocks", ⟨"CutBlocks", "seed", "(I)I"⟩, prog_1_method_2_code, 2, some .int)
abbrev y_Cb_forgetAllCuts : kv_M := ("CutBlocks", ⟨"CutBlocks", "forgetAllCuts", "()V"⟩, prog_1_method_29_code, 2, none)
abbrev y_Txt_forgetCuts : kv_M := ("CutBlocks$Text", ⟨"CutBlocks$Text", "forgetCuts", "()V"⟩, prog_6_method_2_code, 1, none)
abbrev y_Cb_rule : kv_M := ("CutBlocks", ⟨"CutBlocks", "rule", "(IIIIII)I"⟩, prog_1_method_3_code, 7, some .int)
abbrev y_Rul_fit : kv_M := ("CutBlocks$Rules", ⟨"CutBlocks$Rules", "fit", "(IIIIII)Z"⟩, prog_3_method_2_code, 6, some .boolean)
abbrev y_Cb_add : kv_M := ("CutBlocks", ⟨"CutBlocks", "add", "(II)I"⟩, prog_1_method_4_code, 3, some .int)
abbrev y_Cb_isText : kv_M := ("CutBlocks", ⟨"CutBlocks", "isText", "(I)Z"⟩, prog_1_method_22_code, 1, some .boolean)
abbrev y_Cb_isByte : kv_M := ("CutBlocks", ⟨"CutBlocks", "isByte", "(I)Z"⟩, prog_1_method_23_code, 1, some .boolean)
abbrev y_Txt_put : kv_M := ("CutBlocks$Text", ⟨"CutBlocks$Text", "put", "(II)I"⟩, prog_6_method_5_code, 3, some .int)
abbrev y_Txt_changedTo : kv_M := ("CutBlocks$Text", ⟨"CutBlocks$Text", "changedTo", "(I)I"⟩, prog_6_method_9_code, 2, some .int)
abbrev y_Cb_fill : kv_M := ("CutBlocks", ⟨"CutBlocks", "fill", "(IIII)I"⟩, prog_1_method_5_code, 5, some .int)
abbrev y_Txt_sow : kv_M := ("CutBlocks$Text", ⟨"CutBlocks$Text", "sow", "(III)I"⟩, prog_6_method_6_code, 6, some .int)
abbrev y_Cb_insert : kv_M := ("CutBlocks", ⟨"CutBlocks", "insert", "(III)I"⟩, prog_1_method_6_code, 4, some .int)
abbrev y_Cb_remove : kv_M := ("CutBlocks", ⟨"CutBlocks", "remove", "(III)I"⟩, prog_1_method_7_code, 4, some .int)
abbrev y_Txt_take : kv_M := ("CutBlocks$Text", ⟨"CutBlocks$Text", "take", "(II)I"⟩, prog_6_method_7_code, 3, some .int)
abbrev y_Cb_copy : kv_M := ("CutBlocks", ⟨"CutBlocks", "copy", "(II)I"⟩, prog_1_method_8_code, 3, some .int)
abbrev y_Txt_become : kv_M := ("CutBlocks$Text", ⟨"CutBlocks$Text", "become", "(LCutBlocks$Text;)I"⟩, prog_6_method_8_code, 2, some .int)
abbrev y_Cb_size : kv_M := ("CutBlocks", ⟨"CutBlocks", "size", "(I)I"⟩, prog_1_method_9_code, 2, some .int)
abbrev y_Cb_byteAt : kv_M := ("CutBlocks", ⟨"CutBlocks", "byteAt", "(II)I"⟩, prog_1_method_10_code, 3, some .int)
abbrev y_Cb_hasByte : kv_M := ("CutBlocks", ⟨"CutBlocks", "hasByte", "(II)Z"⟩, prog_1_method_24_code, 3, some .boolean)
abbrev y_Cb_blocks : kv_M := ("CutBlocks", ⟨"CutBlocks", "blocks", "(I)I"⟩, prog_1_method_11_code, 2, some .int)
abbrev y_Cb_cutRow : kv_M := ("CutBlocks", ⟨"CutBlocks", "cutRow", "(I)LCutBlocks$Row;"⟩, prog_1_method_27_code, 2, some (.object "CutBlocks$Row"))
abbrev y_Txt_cutBy : kv_M := ("CutBlocks$Text", ⟨"CutBlocks$Text", "cutBy", "(LCutBlocks$Rules;)V"⟩, prog_6_method_3_code, 3, none)
abbrev y_Row_end : kv_M := ("CutBlocks$Row", ⟨"CutBlocks$Row", "end", "()I"⟩, prog_2_method_2_code, 1, some .int)
abbrev y_Rul_endOfBlock : kv_M := ("CutBlocks$Rules", ⟨"CutBlocks$Rules", "endOfBlock", "([III)I"⟩, prog_3_method_5_code, 8, some .int)
abbrev y_Rul_numberWith : kv_M := ("CutBlocks$Rules", ⟨"CutBlocks$Rules", "numberWith", "(I[III)I"⟩, prog_3_method_7_code, 7, some .int)
abbrev y_Rul_turnedLeft : kv_M := ("CutBlocks$Rules", ⟨"CutBlocks$Rules", "turnedLeft", "(II)I"⟩, prog_3_method_11_code, 2, some .int)
abbrev y_Rul_allowed : kv_M := ("CutBlocks$Rules", ⟨"CutBlocks$Rules", "allowed", "(I)Z"⟩, prog_3_method_8_code, 2, some .boolean)
abbrev y_Rul_marksAt : kv_M := ("CutBlocks$Rules", ⟨"CutBlocks$Rules", "marksAt", "(I)I"⟩, prog_3_method_9_code, 2, some .int)
abbrev y_Rul_marked : kv_M := ("CutBlocks$Rules", ⟨"CutBlocks$Rules", "marked", "(II)Z"⟩, prog_3_method_10_code, 2, some .boolean)
abbrev y_Row_close : kv_M := ("CutBlocks$Row", ⟨"CutBlocks$Row", "close", "(I)V"⟩, prog_2_method_4_code, 2, none)
abbrev y_Cb_block : kv_M := ("CutBlocks", ⟨"CutBlocks", "block", "(III)I"⟩, prog_1_method_12_code, 5, some .int)
abbrev y_Cb_hasBlock : kv_M := ("CutBlocks", ⟨"CutBlocks", "hasBlock", "(II)Z"⟩, prog_1_method_25_code, 3, some .boolean)
abbrev y_Row_bytesOf : kv_M := ("CutBlocks$Row", ⟨"CutBlocks$Row", "bytesOf", "(I)I"⟩, prog_2_method_3_code, 2, some .int)
abbrev y_Cb_digest : kv_M := ("CutBlocks", ⟨"CutBlocks", "digest", "(III)J"⟩, prog_1_method_13_code, 5, some .long)
abbrev y_Row_mixedSum : kv_M := ("CutBlocks$Row", ⟨"CutBlocks$Row", "mixedSum", "(I)I"⟩, prog_2_method_6_code, 4, some .int)
abbrev y_Cb_unsigned : kv_M := ("CutBlocks", ⟨"CutBlocks", "unsigned", "(I)J"⟩, prog_1_method_26_code, 1, some .long)
abbrev y_Row_doubleSum : kv_M := ("CutBlocks$Row", ⟨"CutBlocks$Row", "doubleSum", "(I)J"⟩, prog_2_method_7_code, 5, some .long)
abbrev y_Cb_hash : kv_M := ("CutBlocks", ⟨"CutBlocks", "hash", "(II)J"⟩, prog_1_method_14_code, 4, some .long)
abbrev y_Row_startOfBlockWith : kv_M := ("CutBlocks$Row", ⟨"CutBlocks$Row", "startOfBlockWith", "(I)I"⟩, prog_2_method_5_code, 3, some .int)
abbrev y_Rul_numberAt : kv_M := ("CutBlocks$Rules", ⟨"CutBlocks$Rules", "numberAt", "([III)I"⟩, prog_3_method_6_code, 6, some .int)
abbrev y_Cb_alike : kv_M := ("CutBlocks", ⟨"CutBlocks", "alike", "(III)I"⟩, prog_1_method_15_code, 6, some .int)
abbrev y_Cb_indexedRow : kv_M := ("CutBlocks", ⟨"CutBlocks", "indexedRow", "(I)LCutBlocks$Row;"⟩, prog_1_method_28_code, 2, some (.object "CutBlocks$Row"))
abbrev y_Txt_indexBy : kv_M := ("CutBlocks$Text", ⟨"CutBlocks$Text", "indexBy", "(LCutBlocks$Rules;)V"⟩, prog_6_method_4_code, 2, none)
abbrev y_Row_index : kv_M := ("CutBlocks$Row", ⟨"CutBlocks$Row", "index", "()V"⟩, prog_2_method_9_code, 2, none)
abbrev y_Row_find : kv_M := ("CutBlocks$Row", ⟨"CutBlocks$Row", "find", "(LCutBlocks$Row;I)I"⟩, prog_2_method_11_code, 5, some .int)
abbrev y_Row_isLike : kv_M := ("CutBlocks$Row", ⟨"CutBlocks$Row", "isLike", "(ILCutBlocks$Row;I)Z"⟩, prog_2_method_12_code, 8, some .boolean)
abbrev y_Row_chain : kv_M := ("CutBlocks$Row", ⟨"CutBlocks$Row", "chain", "(I)V"⟩, prog_2_method_10_code, 3, none)
abbrev y_Row_blocksIn : kv_M := ("CutBlocks$Row", ⟨"CutBlocks$Row", "blocksIn", "(LCutBlocks$Row;)I"⟩, prog_2_method_13_code, 4, some .int)
abbrev y_Row_bytesIn : kv_M := ("CutBlocks$Row", ⟨"CutBlocks$Row", "bytesIn", "(LCutBlocks$Row;)I"⟩, prog_2_method_14_code, 4, some .int)
abbrev y_Row_firstLike : kv_M := ("CutBlocks$Row", ⟨"CutBlocks$Row", "firstLike", "(LCutBlocks$Row;)I"⟩, prog_2_method_15_code, 4, some .int)
abbrev y_Row_lastLike : kv_M := ("CutBlocks$Row", ⟨"CutBlocks$Row", "lastLike", "(LCutBlocks$Row;)I"⟩, prog_2_method_16_code, 4, some .int)
abbrev y_Cb_keep : kv_M := ("CutBlocks", ⟨"CutBlocks", "keep", "(I)I"⟩, prog_1_method_16_code, 2, some .int)
abbrev y_Sto_takeIn : kv_M := ("CutBlocks$Store", ⟨"CutBlocks$Store", "takeIn", "(LCutBlocks$Row;)I"⟩, prog_5_method_3_code, 6, some .int)
abbrev y_Sto_leastFree : kv_M := ("CutBlocks$Store", ⟨"CutBlocks$Store", "leastFree", "()I"⟩, prog_5_method_9_code, 2, some .int)
abbrev y_Row_hasRoomFor : kv_M := ("CutBlocks$Row", ⟨"CutBlocks$Row", "hasRoomFor", "(I)Z"⟩, prog_2_method_17_code, 2, some .boolean)
abbrev y_Sto_sweep : kv_M := ("CutBlocks$Store", ⟨"CutBlocks$Store", "sweep", "()I"⟩, prog_5_method_12_code, 4, some .int)
abbrev y_Row_append : kv_M := ("CutBlocks$Row", ⟨"CutBlocks$Row", "append", "(LCutBlocks$Row;I)V"⟩, prog_2_method_18_code, 4, none)
abbrev y_Sto_renumber : kv_M := ("CutBlocks$Store", ⟨"CutBlocks$Store", "renumber", "()V"⟩, prog_5_method_13_code, 4, none)
abbrev y_Sto_takeInNew : kv_M := ("CutBlocks$Store", ⟨"CutBlocks$Store", "takeInNew", "(LCutBlocks$Row;I)I"⟩, prog_5_method_10_code, 4, some .int)
abbrev y_Sto_countPlaces : kv_M := ("CutBlocks$Store", ⟨"CutBlocks$Store", "countPlaces", "(LCutBlocks$Snapshot;I)V"⟩, prog_5_method_11_code, 4, none)
abbrev y_Cb_drop : kv_M := ("CutBlocks", ⟨"CutBlocks", "drop", "(I)I"⟩, prog_1_method_17_code, 2, some .int)
abbrev y_Sto_has : kv_M := ("CutBlocks$Store", ⟨"CutBlocks$Store", "has", "(I)Z"⟩, prog_5_method_2_code, 2, some .boolean)
abbrev y_Sto_letGo : kv_M := ("CutBlocks$Store", ⟨"CutBlocks$Store", "letGo", "(I)I"⟩, prog_5_method_4_code, 3, some .int)
abbrev y_Cb_restore : kv_M := ("CutBlocks", ⟨"CutBlocks", "restore", "(II)I"⟩, prog_1_method_18_code, 3, some .int)
abbrev y_Sto_giveBack : kv_M := ("CutBlocks$Store", ⟨"CutBlocks$Store", "giveBack", "(ILCutBlocks$Text;)I"⟩, prog_5_method_5_code, 8, some .int)
abbrev y_Cb_told : kv_M := ("CutBlocks", ⟨"CutBlocks", "told", "(II)I"⟩, prog_1_method_19_code, 4, some .int)
abbrev y_Cb_uses : kv_M := ("CutBlocks", ⟨"CutBlocks", "uses", "(II)I"⟩, prog_1_method_20_code, 3, some .int)
abbrev y_Sto_placesOf : kv_M := ("CutBlocks$Store", ⟨"CutBlocks$Store", "placesOf", "(LCutBlocks$Row;I)I"⟩, prog_5_method_6_code, 4, some .int)
abbrev y_Cb_kept : kv_M := ("CutBlocks", ⟨"CutBlocks", "kept", "(I)I"⟩, prog_1_method_21_code, 2, some .int)
abbrev y_Sto_snapshotsThere : kv_M := ("CutBlocks$Store", ⟨"CutBlocks$Store", "snapshotsThere", "()I"⟩, prog_5_method_8_code, 3, some .int)
abbrev y_Sto_allPlaces : kv_M := ("CutBlocks$Store", ⟨"CutBlocks$Store", "allPlaces", "()I"⟩, prog_5_method_7_code, 3, some .int)
abbrev y_Row_pairsOfOneKey : kv_M := ("CutBlocks$Row", ⟨"CutBlocks$Row", "pairsOfOneKey", "()I"⟩, prog_2_method_19_code, 4, some .int)
abbrev y_Row_chainLength : kv_M := ("CutBlocks$Row", ⟨"CutBlocks$Row", "chainLength", "(I)I"⟩, prog_2_method_21_code, 4, some .int)
abbrev y_Row_mostOfOneKey : kv_M := ("CutBlocks$Row", ⟨"CutBlocks$Row", "mostOfOneKey", "()I"⟩, prog_2_method_20_code, 3, some .int)
abbrev y_Md_init : kv_M := ("CutBlocksModel", ⟨"CutBlocksModel", "<init>", "()V"⟩, prog_8_method_1_code, 1, none)
abbrev y_Md_layTable : kv_M := ("CutBlocksModel", ⟨"CutBlocksModel", "layTable", "(I)V"⟩, prog_8_method_4_code, 4, none)
abbrev y_Md_seed : kv_M := ("CutBlocksModel", ⟨"CutBlocksModel", "seed", "(I)I"⟩, prog_8_method_5_code, 2, some .int)
abbrev y_Md_rule : kv_M := ("CutBlocksModel", ⟨"CutBlocksModel", "rule", "(IIIIII)I"⟩, prog_8_method_6_code, 8, some .int)
abbrev y_Md_in : kv_M := ("CutBlocksModel", ⟨"CutBlocksModel", "in", "(III)Z"⟩, prog_8_method_3_code, 3, some .boolean)
abbrev y_Md_add : kv_M := ("CutBlocksModel", ⟨"CutBlocksModel", "add", "(II)I"⟩, prog_8_method_8_code, 3, some .int)
abbrev y_Md_isText : kv_M := ("CutBlocksModel", ⟨"CutBlocksModel", "isText", "(I)Z"⟩, prog_8_method_7_code, 1, some .boolean)
abbrev y_Md_insertAt : kv_M := ("CutBlocksModel", ⟨"CutBlocksModel", "insertAt", "(III)I"⟩, prog_8_method_9_code, 5, some .int)
abbrev y_Md_fill : kv_M := ("CutBlocksModel", ⟨"CutBlocksModel", "fill", "(IIII)I"⟩, prog_8_method_10_code, 7, some .int)
abbrev y_Md_insert : kv_M := ("CutBlocksModel", ⟨"CutBlocksModel", "insert", "(III)I"⟩, prog_8_method_11_code, 4, some .int)
abbrev y_Md_remove : kv_M := ("CutBlocksModel", ⟨"CutBlocksModel", "remove", "(III)I"⟩, prog_8_method_12_code, 5, some .int)
abbrev y_Md_copy : kv_M := ("CutBlocksModel", ⟨"CutBlocksModel", "copy", "(II)I"⟩, prog_8_method_13_code, 4, some .int)
abbrev y_Md_size : kv_M := ("CutBlocksModel", ⟨"CutBlocksModel", "size", "(I)I"⟩, prog_8_method_14_code, 2, some .int)
abbrev y_Md_byteAt : kv_M := ("CutBlocksModel", ⟨"CutBlocksModel", "byteAt", "(II)I"⟩, prog_8_method_15_code, 3, some .int)
abbrev y_Md_blocks : kv_M := ("CutBlocksModel", ⟨"CutBlocksModel", "blocks", "(I)I"⟩, prog_8_method_22_code, 2, some .int)
abbrev y_Md_layCuts : kv_M := ("CutBlocksModel", ⟨"CutBlocksModel", "layCuts", "(I[I)I"⟩, prog_8_method_20_code, 5, some .int)
abbrev y_Md_longFrom : kv_M := ("CutBlocksModel", ⟨"CutBlocksModel", "longFrom", "(II)I"⟩, prog_8_method_19_code, 8, some .int)
abbrev y_Md_next : kv_M := ("CutBlocksModel", ⟨"CutBlocksModel", "next", "(IIII)I"⟩, prog_8_method_17_code, 7, some .int)
abbrev y_Md_turn : kv_M := ("CutBlocksModel", ⟨"CutBlocksModel", "turn", "(II)I"⟩, prog_8_method_16_code, 2, some .int)
abbrev y_Md_isMarked : kv_M := ("CutBlocksModel", ⟨"CutBlocksModel", "isMarked", "(II)Z"⟩, prog_8_method_18_code, 4, some .boolean)
abbrev y_Md_block : kv_M := ("CutBlocksModel", ⟨"CutBlocksModel", "block", "(III)I"⟩, prog_8_method_23_code, 4, some .int)
abbrev y_Md_isBlock : kv_M := ("CutBlocksModel", ⟨"CutBlocksModel", "isBlock", "(II)Z"⟩, prog_8_method_21_code, 3, some .boolean)
abbrev y_Md_digest : kv_M := ("CutBlocksModel", ⟨"CutBlocksModel", "digest", "(III)J"⟩, prog_8_method_25_code, 4, some .long)
abbrev y_Md_digestOf : kv_M := ("CutBlocksModel", ⟨"CutBlocksModel", "digestOf", "([IIII)J"⟩, prog_8_method_24_code, 8, some .long)
abbrev y_Md_hash : kv_M := ("CutBlocksModel", ⟨"CutBlocksModel", "hash", "(II)J"⟩, prog_8_method_26_code, 7, some .long)
abbrev y_Md_alike : kv_M := ("CutBlocksModel", ⟨"CutBlocksModel", "alike", "(III)I"⟩, prog_8_method_29_code, 8, some .int)
abbrev y_Md_isLike : kv_M := ("CutBlocksModel", ⟨"CutBlocksModel", "isLike", "(IIII)Z"⟩, prog_8_method_28_code, 6, some .boolean)
abbrev y_Md_isSame : kv_M := ("CutBlocksModel", ⟨"CutBlocksModel", "isSame", "([II[III)Z"⟩, prog_8_method_27_code, 6, some .boolean)
abbrev y_Md_keep : kv_M := ("CutBlocksModel", ⟨"CutBlocksModel", "keep", "(I)I"⟩, prog_8_method_31_code, 9, some .int)
abbrev y_Md_find : kv_M := ("CutBlocksModel", ⟨"CutBlocksModel", "find", "(II)I"⟩, prog_8_method_30_code, 5, some .int)
abbrev y_Md_giveUp : kv_M := ("CutBlocksModel", ⟨"CutBlocksModel", "giveUp", "(IIII)I"⟩, prog_8_method_32_code, 6, some .int)
abbrev y_Md_drop : kv_M := ("CutBlocksModel", ⟨"CutBlocksModel", "drop", "(I)I"⟩, prog_8_method_34_code, 4, some .int)
abbrev y_Md_isSnapshot : kv_M := ("CutBlocksModel", ⟨"CutBlocksModel", "isSnapshot", "(I)Z"⟩, prog_8_method_33_code, 2, some .boolean)
abbrev y_Md_takeOut : kv_M := ("CutBlocksModel", ⟨"CutBlocksModel", "takeOut", "(I)V"⟩, prog_8_method_35_code, 5, none)
abbrev y_Md_restore : kv_M := ("CutBlocksModel", ⟨"CutBlocksModel", "restore", "(II)I"⟩, prog_8_method_36_code, 6, some .int)
abbrev y_Md_told : kv_M := ("CutBlocksModel", ⟨"CutBlocksModel", "told", "(II)I"⟩, prog_8_method_38_code, 3, some .int)
abbrev y_Md_bytesOf : kv_M := ("CutBlocksModel", ⟨"CutBlocksModel", "bytesOf", "(I)I"⟩, prog_8_method_37_code, 4, some .int)
abbrev y_Md_uses : kv_M := ("CutBlocksModel", ⟨"CutBlocksModel", "uses", "(II)I"⟩, prog_8_method_39_code, 4, some .int)
abbrev y_Md_kept : kv_M := ("CutBlocksModel", ⟨"CutBlocksModel", "kept", "(I)I"⟩, prog_8_method_42_code, 4, some .int)
abbrev y_Md_keysTold : kv_M := ("CutBlocksModel", ⟨"CutBlocksModel", "keysTold", "(Z)I"⟩, prog_8_method_41_code, 6, some .int)
abbrev y_Md_keyOf : kv_M := ("CutBlocksModel", ⟨"CutBlocksModel", "keyOf", "(I)J"⟩, prog_8_method_40_code, 2, some .long)
abbrev y_Law_law : kv_M := ("CutBlocksLaw", ⟨"CutBlocksLaw", "law", "([I)Z"⟩, code, 4, some .boolean)
theorem cU0 : ∀ w ∈ u_ws cR0 cT0 6, w ∈ kv_tb := by
  have h1 : ∀ w ∈ u_ws cR0 cT0 6, w ∈ lw_tbl := by decide +kernel
  have h2 : ∀ w ∈ u_ws cR0 cT0 6, goodWord w = true := by decide +kernel
  exact fun w hw => kv_tb_in (h1 w hw) (h2 w hw)
theorem cU1 : ∀ w ∈ u_ws cR1 cT1 7, w ∈ kv_tb := by
  have h1 : ∀ w ∈ u_ws cR1 cT1 7, w ∈ lw_tbl := by decide +kernel
  have h2 : ∀ w ∈ u_ws cR1 cT1 7, goodWord w = true := by decide +kernel
  exact fun w hw => kv_tb_in (h1 w hw) (h2 w hw)
theorem cU2 : ∀ w ∈ u_ws cR2 cT2 4, w ∈ kv_tb := by
  have h1 : ∀ w ∈ u_ws cR2 cT2 4, w ∈ lw_tbl := by decide +kernel
  have h2 : ∀ w ∈ u_ws cR2 cT2 4, goodWord w = true := by decide +kernel
  exact fun w hw => kv_tb_in (h1 w hw) (h2 w hw)
theorem cU3 : ∀ w ∈ u_ws cR3 cT3 4, w ∈ kv_tb := by
  have h1 : ∀ w ∈ u_ws cR3 cT3 4, w ∈ lw_tbl := by decide +kernel
  have h2 : ∀ w ∈ u_ws cR3 cT3 4, goodWord w = true := by decide +kernel
  exact fun w hw => kv_tb_in (h1 w hw) (h2 w hw)
theorem cU4 : ∀ w ∈ u_ws cR4 cT4 4, w ∈ kv_tb := by
  have h1 : ∀ w ∈ u_ws cR4 cT4 4, w ∈ lw_tbl := by decide +kernel
  have h2 : ∀ w ∈ u_ws cR4 cT4 4, goodWord w = true := by decide +kernel
  exact fun w hw => kv_tb_in (h1 w hw) (h2 w hw)
theorem cU5 : ∀ w ∈ u_ws cR5 cT5 3, w ∈ kv_tb := by
  have h1 : ∀ w ∈ u_ws cR5 cT5 3, w ∈ lw_tbl := by decide +kernel
  have h2 : ∀ w ∈ u_ws cR5 cT5 3, goodWord w = true := by decide +kernel
  exact fun w hw => kv_tb_in (h1 w hw) (h2 w hw)
theorem cU6 : ∀ w ∈ u_ws cR6 cT6 24, w ∈ kv_tb := by
  have h1 : ∀ w ∈ u_ws cR6 cT6 24, w ∈ lw_tbl := by decide +kernel
  have h2 : ∀ w ∈ u_ws cR6 cT6 24, goodWord w = true := by decide +kernel
  exact fun w hw => kv_tb_in (h1 w hw) (h2 w hw)
theorem wf_Cb_10 : Cond.fieldLink "CutBlocks" 10 "CutBlocks" "rules" "LCutBlocks$Rules;" ∈ kv_tb := kv_tb_in (List.mem_of_getElem? (i := 195) (by decide +kernel)) rfl
theorem fl_Cb_10 : kv_F "CutBlocks" 10 5 0 true := ⟨cR5, cT5, 3, rfl, by decide, cU5, rfl, Or.inl wf_Cb_10⟩
theorem fp_Cb_10 : kv_G "CutBlocks" 10 5 0 true (.object "CutBlocks$Rules") true := ⟨cR5, cT5, 3, cY5, rfl, by decide, cU5, rfl, cP5, cN5, rfl, cP5 0 (by decide), fun _ => rfl, Or.inl wf_Cb_10⟩
theorem wf_Cb_18 : Cond.fieldLink "CutBlocks" 18 "CutBlocks" "texts" "[LCutBlocks$Text;" ∈ kv_tb := kv_tb_in (List.mem_of_getElem? (i := 196) (by decide +kernel)) rfl
theorem fl_Cb_18 : kv_F "CutBlocks" 18 5 1 true := ⟨cR5, cT5, 3, rfl, by decide, cU5, rfl, Or.inl wf_Cb_18⟩
theorem fp_Cb_18 : kv_G "CutBlocks" 18 5 1 true (.array (.object "CutBlocks$Text")) true := ⟨cR5, cT5, 3, cY5, rfl, by decide, cU5, rfl, cP5, cN5, rfl, cP5 1 (by decide), fun _ => rfl, Or.inl wf_Cb_18⟩
theorem wf_Cb_26 : Cond.fieldLink "CutBlocks" 26 "CutBlocks" "store" "LCutBlocks$Store;" ∈ kv_tb := kv_tb_in (List.mem_of_getElem? (i := 197) (by decide +kernel)) rfl
theorem fl_Cb_26 : kv_F "CutBlocks" 26 5 2 true := ⟨cR5, cT5, 3, rfl, by decide, cU5, rfl, Or.inl wf_Cb_26⟩
theorem fp_Cb_26 : kv_G "CutBlocks" 26 5 2 true (.object "CutBlocks$Store") true := ⟨cR5, cT5, 3, cY5, rfl, by decide, cU5, rfl, cP5, cN5, rfl, cP5 2 (by decide), fun _ => rfl, Or.inl wf_Cb_26⟩
theorem wf_Cb_52 : Cond.fieldLinkNest "CutBlocks" 52 "CutBlocks$Text" "length" "I" "CutBlocks" ∈ kv_nw := kv_nw_in (List.mem_of_getElem? (i := 137) (by decide +kernel)) rfl
theorem fl_Cb_52 : kv_F "CutBlocks" 52 4 1 false := ⟨cR4, cT4, 4, rfl, by decide, cU4, rfl, Or.inr ⟨"CutBlocks", wf_Cb_52⟩⟩
theorem wf_Cb_73 : Cond.fieldLinkNest "CutBlocks" 73 "CutBlocks$Text" "row" "LCutBlocks$Row;" "CutBlocks" ∈ kv_nw := kv_nw_in (List.mem_of_getElem? (i := 135) (by decide +kernel)) rfl
theorem fl_Cb_73 : kv_F "CutBlocks" 73 4 0 true := ⟨cR4, cT4, 4, rfl, by decide, cU4, rfl, Or.inr ⟨"CutBlocks", wf_Cb_73⟩⟩
theorem wf_Cb_77 : Cond.fieldLinkNest "CutBlocks" 77 "CutBlocks$Row" "bytes" "[I" "CutBlocks" ∈ kv_nw := kv_nw_in (List.mem_of_getElem? (i := 109) (by decide +kernel)) rfl
theorem fl_Cb_77 : kv_F "CutBlocks" 77 0 0 true := ⟨cR0, cT0, 6, rfl, by decide, cU0, rfl, Or.inr ⟨"CutBlocks", wf_Cb_77⟩⟩
theorem wf_Cb_87 : Cond.fieldLinkNest "CutBlocks" 87 "CutBlocks$Row" "count" "I" "CutBlocks" ∈ kv_nw := kv_nw_in (List.mem_of_getElem? (i := 119) (by decide +kernel)) rfl
theorem fl_Cb_87 : kv_F "CutBlocks" 87 0 5 false := ⟨cR0, cT0, 6, rfl, by decide, cU0, rfl, Or.inr ⟨"CutBlocks", wf_Cb_87⟩⟩
theorem wf_Cb_93 : Cond.fieldLinkNest "CutBlocks" 93 "CutBlocks$Row" "starts" "[I" "CutBlocks" ∈ kv_nw := kv_nw_in (List.mem_of_getElem? (i := 112) (by decide +kernel)) rfl
theorem fl_Cb_93 : kv_F "CutBlocks" 93 0 1 true := ⟨cR0, cT0, 6, rfl, by decide, cU0, rfl, Or.inr ⟨"CutBlocks", wf_Cb_93⟩⟩
theorem wf_Cb_148 : Cond.fieldLinkNest "CutBlocks" 148 "CutBlocks$Store" "snapshots" "[LCutBlocks$Snapshot;" "CutBlocks" ∈ kv_nw := kv_nw_in (List.mem_of_getElem? (i := 185) (by decide +kernel)) rfl
theorem fl_Cb_148 : kv_F "CutBlocks" 148 3 3 true := ⟨cR3, cT3, 4, rfl, by decide, cU3, rfl, Or.inr ⟨"CutBlocks", wf_Cb_148⟩⟩
theorem wf_Cb_152 : Cond.fieldLinkNest "CutBlocks" 152 "CutBlocks$Snapshot" "count" "I" "CutBlocks" ∈ kv_nw := kv_nw_in (List.mem_of_getElem? (i := 167) (by decide +kernel)) rfl
theorem fl_Cb_152 : kv_F "CutBlocks" 152 2 1 false := ⟨cR2, cT2, 4, rfl, by decide, cU2, rfl, Or.inr ⟨"CutBlocks", wf_Cb_152⟩⟩
theorem wf_Cb_155 : Cond.fieldLinkNest "CutBlocks" 155 "CutBlocks$Snapshot" "length" "I" "CutBlocks" ∈ kv_nw := kv_nw_in (List.mem_of_getElem? (i := 169) (by decide +kernel)) rfl
theorem fl_Cb_155 : kv_F "CutBlocks" 155 2 2 false := ⟨cR2, cT2, 4, rfl, by decide, cU2, rfl, Or.inr ⟨"CutBlocks", wf_Cb_155⟩⟩
theorem wf_Cb_164 : Cond.fieldLinkNest "CutBlocks" 164 "CutBlocks$Store" "row" "LCutBlocks$Row;" "CutBlocks" ∈ kv_nw := kv_nw_in (List.mem_of_getElem? (i := 181) (by decide +kernel)) rfl
theorem fl_Cb_164 : kv_F "CutBlocks" 164 3 0 true := ⟨cR3, cT3, 4, rfl, by decide, cU3, rfl, Or.inr ⟨"CutBlocks", wf_Cb_164⟩⟩
theorem wf_Row_9 : Cond.fieldLink "CutBlocks$Row" 9 "CutBlocks$Row" "bytes" "[I" ∈ kv_tb := kv_tb_in (List.mem_of_getElem? (i := 106) (by decide +kernel)) rfl
theorem fl_Row_9 : kv_F "CutBlocks$Row" 9 0 0 true := ⟨cR0, cT0, 6, rfl, by decide, cU0, rfl, Or.inl wf_Row_9⟩
theorem fp_Row_9 : kv_G "CutBlocks$Row" 9 0 0 true (.array .int) true := ⟨cR0, cT0, 6, cY0, rfl, by decide, cU0, rfl, cP0, cN0, rfl, cP0 0 (by decide), fun _ => rfl, Or.inl wf_Row_9⟩
theorem wf_Row_15 : Cond.fieldLink "CutBlocks$Row" 15 "CutBlocks$Row" "starts" "[I" ∈ kv_tb := kv_tb_in (List.mem_of_getElem? (i := 110) (by decide +kernel)) rfl
theorem fl_Row_15 : kv_F "CutBlocks$Row" 15 0 1 true := ⟨cR0, cT0, 6, rfl, by decide, cU0, rfl, Or.inl wf_Row_15⟩
theorem fp_Row_15 : kv_G "CutBlocks$Row" 15 0 1 true (.array .int) true := ⟨cR0, cT0, 6, cY0, rfl, by decide, cU0, rfl, cP0, cN0, rfl, cP0 1 (by decide), fun _ => rfl, Or.inl wf_Row_15⟩
theorem wf_Row_18 : Cond.fieldLink "CutBlocks$Row" 18 "CutBlocks$Row" "sums" "[I" ∈ kv_tb := kv_tb_in (List.mem_of_getElem? (i := 113) (by decide +kernel)) rfl
theorem fl_Row_18 : kv_F "CutBlocks$Row" 18 0 2 true := ⟨cR0, cT0, 6, rfl, by decide, cU0, rfl, Or.inl wf_Row_18⟩
theorem fp_Row_18 : kv_G "CutBlocks$Row" 18 0 2 true (.array .int) true := ⟨cR0, cT0, 6, cY0, rfl, by decide, cU0, rfl, cP0, cN0, rfl, cP0 2 (by decide), fun _ => rfl, Or.inl wf_Row_18⟩
theorem wf_Row_21 : Cond.fieldLink "CutBlocks$Row" 21 "CutBlocks$Row" "nexts" "[I" ∈ kv_tb := kv_tb_in (List.mem_of_getElem? (i := 115) (by decide +kernel)) rfl
theorem fl_Row_21 : kv_F "CutBlocks$Row" 21 0 4 true := ⟨cR0, cT0, 6, rfl, by decide, cU0, rfl, Or.inl wf_Row_21⟩
theorem fp_Row_21 : kv_G "CutBlocks$Row" 21 0 4 true (.array .int) true := ⟨cR0, cT0, 6, cY0, rfl, by decide, cU0, rfl, cP0, cN0, rfl, cP0 4 (by decide), fun _ => rfl, Or.inl wf_Row_21⟩
theorem wf_Row_24 : Cond.fieldLink "CutBlocks$Row" 24 "CutBlocks$Row" "heads" "[I" ∈ kv_tb := kv_tb_in (List.mem_of_getElem? (i := 114) (by decide +kernel)) rfl
theorem fl_Row_24 : kv_F "CutBlocks$Row" 24 0 3 true := ⟨cR0, cT0, 6, rfl, by decide, cU0, rfl, Or.inl wf_Row_24⟩
theorem fp_Row_24 : kv_G "CutBlocks$Row" 24 0 3 true (.array .int) true := ⟨cR0, cT0, 6, cY0, rfl, by decide, cU0, rfl, cP0, cN0, rfl, cP0 3 (by decide), fun _ => rfl, Or.inl wf_Row_24⟩
theorem wf_Row_30 : Cond.fieldLink "CutBlocks$Row" 30 "CutBlocks$Row" "count" "I" ∈ kv_tb := kv_tb_in (List.mem_of_getElem? (i := 116) (by decide +kernel)) rfl
theorem fl_Row_30 : kv_F "CutBlocks$Row" 30 0 5 false := ⟨cR0, cT0, 6, rfl, by decide, cU0, rfl, Or.inl wf_Row_30⟩
theorem fp_Row_30 : kv_G "CutBlocks$Row" 30 0 5 false .int false := ⟨cR0, cT0, 6, cY0, rfl, by decide, cU0, rfl, cP0, cN0, rfl, cP0 5 (by decide), (fun h => by cases h), Or.inl wf_Row_30⟩
theorem wf_Rul_9 : Cond.fieldLink "CutBlocks$Rules" 9 "CutBlocks$Rules" "table" "[I" ∈ kv_tb := kv_tb_in (List.mem_of_getElem? (i := 63) (by decide +kernel)) rfl
theorem fl_Rul_9 : kv_F "CutBlocks$Rules" 9 1 0 true := ⟨cR1, cT1, 7, rfl, by decide, cU1, rfl, Or.inl wf_Rul_9⟩
theorem fp_Rul_9 : kv_G "CutBlocks$Rules" 9 1 0 true (.array .int) true := ⟨cR1, cT1, 7, cY1, rfl, by decide, cU1, rfl, cP1, cN1, rfl, cP1 0 (by decide), fun _ => rfl, Or.inl wf_Rul_9⟩
theorem wf_Rul_23 : Cond.fieldLink "CutBlocks$Rules" 23 "CutBlocks$Rules" "mode" "I" ∈ kv_tb := kv_tb_in (List.mem_of_getElem? (i := 64) (by decide +kernel)) rfl
theorem fl_Rul_23 : kv_F "CutBlocks$Rules" 23 1 1 false := ⟨cR1, cT1, 7, rfl, by decide, cU1, rfl, Or.inl wf_Rul_23⟩
theorem fp_Rul_23 : kv_G "CutBlocks$Rules" 23 1 1 false .int false := ⟨cR1, cT1, 7, cY1, rfl, by decide, cU1, rfl, cP1, cN1, rfl, cP1 1 (by decide), (fun h => by cases h), Or.inl wf_Rul_23⟩
theorem wf_Rul_27 : Cond.fieldLink "CutBlocks$Rules" 27 "CutBlocks$Rules" "least" "I" ∈ kv_tb := kv_tb_in (List.mem_of_getElem? (i := 65) (by decide +kernel)) rfl
theorem fl_Rul_27 : kv_F "CutBlocks$Rules" 27 1 2 false := ⟨cR1, cT1, 7, rfl, by decide, cU1, rfl, Or.inl wf_Rul_27⟩
theorem fp_Rul_27 : kv_G "CutBlocks$Rules" 27 1 2 false .int false := ⟨cR1, cT1, 7, cY1, rfl, by decide, cU1, rfl, cP1, cN1, rfl, cP1 2 (by decide), (fun h => by cases h), Or.inl wf_Rul_27⟩
theorem wf_Rul_30 : Cond.fieldLink "CutBlocks$Rules" 30 "CutBlocks$Rules" "greatest" "I" ∈ kv_tb := kv_tb_in (List.mem_of_getElem? (i := 66) (by decide +kernel)) rfl
theorem fl_Rul_30 : kv_F "CutBlocks$Rules" 30 1 3 false := ⟨cR1, cT1, 7, rfl, by decide, cU1, rfl, Or.inl wf_Rul_30⟩
theorem fp_Rul_30 : kv_G "CutBlocks$Rules" 30 1 3 false .int false := ⟨cR1, cT1, 7, cY1, rfl, by decide, cU1, rfl, cP1, cN1, rfl, cP1 3 (by decide), (fun h => by cases h), Or.inl wf_Rul_30⟩
theorem wf_Rul_33 : Cond.fieldLink "CutBlocks$Rules" 33 "CutBlocks$Rules" "bits" "I" ∈ kv_tb := kv_tb_in (List.mem_of_getElem? (i := 67) (by decide +kernel)) rfl
theorem fl_Rul_33 : kv_F "CutBlocks$Rules" 33 1 4 false := ⟨cR1, cT1, 7, rfl, by decide, cU1, rfl, Or.inl wf_Rul_33⟩
theorem fp_Rul_33 : kv_G "CutBlocks$Rules" 33 1 4 false .int false := ⟨cR1, cT1, 7, cY1, rfl, by decide, cU1, rfl, cP1, cN1, rfl, cP1 4 (by decide), (fun h => by cases h), Or.inl wf_Rul_33⟩
theorem wf_Rul_36 : Cond.fieldLink "CutBlocks$Rules" 36 "CutBlocks$Rules" "level" "I" ∈ kv_tb := kv_tb_in (List.mem_of_getElem? (i := 68) (by decide +kernel)) rfl
theorem fl_Rul_36 : kv_F "CutBlocks$Rules" 36 1 5 false := ⟨cR1, cT1, 7, rfl, by decide, cU1, rfl, Or.inl wf_Rul_36⟩
theorem fp_Rul_36 : kv_G "CutBlocks$Rules" 36 1 5 false .int false := ⟨cR1, cT1, 7, cY1, rfl, by decide, cU1, rfl, cP1, cN1, rfl, cP1 5 (by decide), (fun h => by cases h), Or.inl wf_Rul_36⟩
theorem wf_Rul_39 : Cond.fieldLink "CutBlocks$Rules" 39 "CutBlocks$Rules" "record" "I" ∈ kv_tb := kv_tb_in (List.mem_of_getElem? (i := 69) (by decide +kernel)) rfl
theorem fl_Rul_39 : kv_F "CutBlocks$Rules" 39 1 6 false := ⟨cR1, cT1, 7, rfl, by decide, cU1, rfl, Or.inl wf_Rul_39⟩
theorem fp_Rul_39 : kv_G "CutBlocks$Rules" 39 1 6 false .int false := ⟨cR1, cT1, 7, cY1, rfl, by decide, cU1, rfl, cP1, cN1, rfl, cP1 6 (by decide), (fun h => by cases h), Or.inl wf_Rul_39⟩
theorem wf_Snp_9 : Cond.fieldLink "CutBlocks$Snapshot" 9 "CutBlocks$Snapshot" "numbers" "[I" ∈ kv_tb := kv_tb_in (List.mem_of_getElem? (i := 164) (by decide +kernel)) rfl
theorem fp_Snp_9 : kv_G "CutBlocks$Snapshot" 9 2 0 true (.array .int) true := ⟨cR2, cT2, 4, cY2, rfl, by decide, cU2, rfl, cP2, cN2, rfl, cP2 0 (by decide), fun _ => rfl, Or.inl wf_Snp_9⟩
theorem wf_Sto_14 : Cond.fieldLink "CutBlocks$Store" 14 "CutBlocks$Store" "row" "LCutBlocks$Row;" ∈ kv_tb := kv_tb_in (List.mem_of_getElem? (i := 180) (by decide +kernel)) rfl
theorem fl_Sto_14 : kv_F "CutBlocks$Store" 14 3 0 true := ⟨cR3, cT3, 4, rfl, by decide, cU3, rfl, Or.inl wf_Sto_14⟩
theorem fp_Sto_14 : kv_G "CutBlocks$Store" 14 3 0 true (.object "CutBlocks$Row") true := ⟨cR3, cT3, 4, cY3, rfl, by decide, cU3, rfl, cP3, cN3, rfl, cP3 0 (by decide), fun _ => rfl, Or.inl wf_Sto_14⟩
theorem wf_Sto_20 : Cond.fieldLink "CutBlocks$Store" 20 "CutBlocks$Store" "places" "[I" ∈ kv_tb := kv_tb_in (List.mem_of_getElem? (i := 182) (by decide +kernel)) rfl
theorem fl_Sto_20 : kv_F "CutBlocks$Store" 20 3 1 true := ⟨cR3, cT3, 4, rfl, by decide, cU3, rfl, Or.inl wf_Sto_20⟩
theorem fp_Sto_20 : kv_G "CutBlocks$Store" 20 3 1 true (.array .int) true := ⟨cR3, cT3, 4, cY3, rfl, by decide, cU3, rfl, cP3, cN3, rfl, cP3 1 (by decide), fun _ => rfl, Or.inl wf_Sto_20⟩
theorem wf_Sto_24 : Cond.fieldLink "CutBlocks$Store" 24 "CutBlocks$Store" "newNumbers" "[I" ∈ kv_tb := kv_tb_in (List.mem_of_getElem? (i := 183) (by decide +kernel)) rfl
theorem fl_Sto_24 : kv_F "CutBlocks$Store" 24 3 2 true := ⟨cR3, cT3, 4, rfl, by decide, cU3, rfl, Or.inl wf_Sto_24⟩
theorem fp_Sto_24 : kv_G "CutBlocks$Store" 24 3 2 true (.array .int) true := ⟨cR3, cT3, 4, cY3, rfl, by decide, cU3, rfl, cP3, cN3, rfl, cP3 2 (by decide), fun _ => rfl, Or.inl wf_Sto_24⟩
theorem wf_Sto_29 : Cond.fieldLink "CutBlocks$Store" 29 "CutBlocks$Store" "snapshots" "[LCutBlocks$Snapshot;" ∈ kv_tb := kv_tb_in (List.mem_of_getElem? (i := 184) (by decide +kernel)) rfl
theorem fl_Sto_29 : kv_F "CutBlocks$Store" 29 3 3 true := ⟨cR3, cT3, 4, rfl, by decide, cU3, rfl, Or.inl wf_Sto_29⟩
theorem fp_Sto_29 : kv_G "CutBlocks$Store" 29 3 3 true (.array (.object "CutBlocks$Snapshot")) true := ⟨cR3, cT3, 4, cY3, rfl, by decide, cU3, rfl, cP3, cN3, rfl, cP3 3 (by decide), fun _ => rfl, Or.inl wf_Sto_29⟩
theorem wf_Sto_34 : Cond.fieldLinkNest "CutBlocks$Store" 34 "CutBlocks$Snapshot" "there" "Z" "CutBlocks" ∈ kv_nw := kv_nw_in (List.mem_of_getElem? (i := 170) (by decide +kernel)) rfl
theorem fl_Sto_34 : kv_F "CutBlocks$Store" 34 2 3 false := ⟨cR2, cT2, 4, rfl, by decide, cU2, rfl, Or.inr ⟨"CutBlocks", wf_Sto_34⟩⟩
theorem fp_Sto_34 : kv_G "CutBlocks$Store" 34 2 3 false .boolean false := ⟨cR2, cT2, 4, cY2, rfl, by decide, cU2, rfl, cP2, cN2, rfl, cP2 3 (by decide), (fun h => by cases h), Or.inr ⟨rfl, "CutBlocks", wf_Sto_34⟩⟩
theorem wf_Sto_42 : Cond.fieldLinkNest "CutBlocks$Store" 42 "CutBlocks$Row" "count" "I" "CutBlocks" ∈ kv_nw := kv_nw_in (List.mem_of_getElem? (i := 118) (by decide +kernel)) rfl
theorem fl_Sto_42 : kv_F "CutBlocks$Store" 42 0 5 false := ⟨cR0, cT0, 6, rfl, by decide, cU0, rfl, Or.inr ⟨"CutBlocks", wf_Sto_42⟩⟩
theorem fp_Sto_42 : kv_G "CutBlocks$Store" 42 0 5 false .int false := ⟨cR0, cT0, 6, cY0, rfl, by decide, cU0, rfl, cP0, cN0, rfl, cP0 5 (by decide), (fun h => by cases h), Or.inr ⟨rfl, "CutBlocks", wf_Sto_42⟩⟩
theorem wf_Sto_61 : Cond.fieldLinkNest "CutBlocks$Store" 61 "CutBlocks$Snapshot" "numbers" "[I" "CutBlocks" ∈ kv_nw := kv_nw_in (List.mem_of_getElem? (i := 165) (by decide +kernel)) rfl
theorem fl_Sto_61 : kv_F "CutBlocks$Store" 61 2 0 true := ⟨cR2, cT2, 4, rfl, by decide, cU2, rfl, Or.inr ⟨"CutBlocks", wf_Sto_61⟩⟩
theorem wf_Sto_67 : Cond.fieldLinkNest "CutBlocks$Store" 67 "CutBlocks$Snapshot" "count" "I" "CutBlocks" ∈ kv_nw := kv_nw_in (List.mem_of_getElem? (i := 166) (by decide +kernel)) rfl
theorem fl_Sto_67 : kv_F "CutBlocks$Store" 67 2 1 false := ⟨cR2, cT2, 4, rfl, by decide, cU2, rfl, Or.inr ⟨"CutBlocks", wf_Sto_67⟩⟩
theorem fp_Sto_67 : kv_G "CutBlocks$Store" 67 2 1 false .int false := ⟨cR2, cT2, 4, cY2, rfl, by decide, cU2, rfl, cP2, cN2, rfl, cP2 1 (by decide), (fun h => by cases h), Or.inr ⟨rfl, "CutBlocks", wf_Sto_67⟩⟩
theorem wf_Sto_71 : Cond.fieldLinkNest "CutBlocks$Store" 71 "CutBlocks$Snapshot" "length" "I" "CutBlocks" ∈ kv_nw := kv_nw_in (List.mem_of_getElem? (i := 168) (by decide +kernel)) rfl
theorem fp_Sto_71 : kv_G "CutBlocks$Store" 71 2 2 false .int false := ⟨cR2, cT2, 4, cY2, rfl, by decide, cU2, rfl, cP2, cN2, rfl, cP2 2 (by decide), (fun h => by cases h), Or.inr ⟨rfl, "CutBlocks", wf_Sto_71⟩⟩
theorem wf_Sto_78 : Cond.fieldLinkNest "CutBlocks$Store" 78 "CutBlocks$Row" "bytes" "[I" "CutBlocks" ∈ kv_nw := kv_nw_in (List.mem_of_getElem? (i := 108) (by decide +kernel)) rfl
theorem fl_Sto_78 : kv_F "CutBlocks$Store" 78 0 0 true := ⟨cR0, cT0, 6, rfl, by decide, cU0, rfl, Or.inr ⟨"CutBlocks", wf_Sto_78⟩⟩
theorem wf_Sto_81 : Cond.fieldLinkNest "CutBlocks$Store" 81 "CutBlocks$Row" "starts" "[I" "CutBlocks" ∈ kv_nw := kv_nw_in (List.mem_of_getElem? (i := 111) (by decide +kernel)) rfl
theorem fl_Sto_81 : kv_F "CutBlocks$Store" 81 0 1 true := ⟨cR0, cT0, 6, rfl, by decide, cU0, rfl, Or.inr ⟨"CutBlocks", wf_Sto_81⟩⟩
theorem wf_Sto_84 : Cond.fieldLinkNest "CutBlocks$Store" 84 "CutBlocks$Text" "row" "LCutBlocks$Row;" "CutBlocks" ∈ kv_nw := kv_nw_in (List.mem_of_getElem? (i := 134) (by decide +kernel)) rfl
theorem fl_Sto_84 : kv_F "CutBlocks$Store" 84 4 0 true := ⟨cR4, cT4, 4, rfl, by decide, cU4, rfl, Or.inr ⟨"CutBlocks", wf_Sto_84⟩⟩
theorem wf_Txt_14 : Cond.fieldLink "CutBlocks$Text" 14 "CutBlocks$Text" "row" "LCutBlocks$Row;" ∈ kv_tb := kv_tb_in (List.mem_of_getElem? (i := 133) (by decide +kernel)) rfl
theorem fl_Txt_14 : kv_F "CutBlocks$Text" 14 4 0 true := ⟨cR4, cT4, 4, rfl, by decide, cU4, rfl, Or.inl wf_Txt_14⟩
theorem fp_Txt_14 : kv_G "CutBlocks$Text" 14 4 0 true (.object "CutBlocks$Row") true := ⟨cR4, cT4, 4, cY4, rfl, by decide, cU4, rfl, cP4, cN4, rfl, cP4 0 (by decide), fun _ => rfl, Or.inl wf_Txt_14⟩
theorem wf_Txt_20 : Cond.fieldLink "CutBlocks$Text" 20 "CutBlocks$Text" "cut" "Z" ∈ kv_tb := kv_tb_in (List.mem_of_getElem? (i := 138) (by decide +kernel)) rfl
theorem fl_Txt_20 : kv_F "CutBlocks$Text" 20 4 2 false := ⟨cR4, cT4, 4, rfl, by decide, cU4, rfl, Or.inl wf_Txt_20⟩
theorem fp_Txt_20 : kv_G "CutBlocks$Text" 20 4 2 false .boolean false := ⟨cR4, cT4, 4, cY4, rfl, by decide, cU4, rfl, cP4, cN4, rfl, cP4 2 (by decide), (fun h => by cases h), Or.inl wf_Txt_20⟩
theorem wf_Txt_24 : Cond.fieldLink "CutBlocks$Text" 24 "CutBlocks$Text" "indexed" "Z" ∈ kv_tb := kv_tb_in (List.mem_of_getElem? (i := 139) (by decide +kernel)) rfl
theorem fl_Txt_24 : kv_F "CutBlocks$Text" 24 4 3 false := ⟨cR4, cT4, 4, rfl, by decide, cU4, rfl, Or.inl wf_Txt_24⟩
theorem fp_Txt_24 : kv_G "CutBlocks$Text" 24 4 3 false .boolean false := ⟨cR4, cT4, 4, cY4, rfl, by decide, cU4, rfl, cP4, cN4, rfl, cP4 3 (by decide), (fun h => by cases h), Or.inl wf_Txt_24⟩
theorem wf_Txt_27 : Cond.fieldLinkNest "CutBlocks$Text" 27 "CutBlocks$Row" "count" "I" "CutBlocks" ∈ kv_nw := kv_nw_in (List.mem_of_getElem? (i := 117) (by decide +kernel)) rfl
theorem fp_Txt_27 : kv_G "CutBlocks$Text" 27 0 5 false .int false := ⟨cR0, cT0, 6, cY0, rfl, by decide, cU0, rfl, cP0, cN0, rfl, cP0 5 (by decide), (fun h => by cases h), Or.inr ⟨rfl, "CutBlocks", wf_Txt_27⟩⟩
theorem wf_Txt_35 : Cond.fieldLink "CutBlocks$Text" 35 "CutBlocks$Text" "length" "I" ∈ kv_tb := kv_tb_in (List.mem_of_getElem? (i := 136) (by decide +kernel)) rfl
theorem fl_Txt_35 : kv_F "CutBlocks$Text" 35 4 1 false := ⟨cR4, cT4, 4, rfl, by decide, cU4, rfl, Or.inl wf_Txt_35⟩
theorem fp_Txt_35 : kv_G "CutBlocks$Text" 35 4 1 false .int false := ⟨cR4, cT4, 4, cY4, rfl, by decide, cU4, rfl, cP4, cN4, rfl, cP4 1 (by decide), (fun h => by cases h), Or.inl wf_Txt_35⟩
theorem wf_Txt_38 : Cond.fieldLinkNest "CutBlocks$Text" 38 "CutBlocks$Row" "bytes" "[I" "CutBlocks" ∈ kv_nw := kv_nw_in (List.mem_of_getElem? (i := 107) (by decide +kernel)) rfl
theorem fl_Txt_38 : kv_F "CutBlocks$Text" 38 0 0 true := ⟨cR0, cT0, 6, rfl, by decide, cU0, rfl, Or.inr ⟨"CutBlocks", wf_Txt_38⟩⟩
theorem wf_Md_7 : Cond.fieldLink "CutBlocksModel" 7 "CutBlocksModel" "texts" "[I" ∈ kv_tb := kv_tb_in (List.mem_of_getElem? (i := 544) (by decide +kernel)) rfl
theorem fl_Md_7 : kv_F "CutBlocksModel" 7 6 1 true := ⟨cR6, cT6, 24, rfl, by decide, cU6, rfl, Or.inl wf_Md_7⟩
theorem fp_Md_7 : kv_G "CutBlocksModel" 7 6 1 true (.array .int) true := ⟨cR6, cT6, 24, cY6, rfl, by decide, cU6, rfl, cP6, cN6, rfl, cP6 1 (by decide), fun _ => rfl, Or.inl wf_Md_7⟩
theorem wf_Md_13 : Cond.fieldLink "CutBlocksModel" 13 "CutBlocksModel" "sizes" "[I" ∈ kv_tb := kv_tb_in (List.mem_of_getElem? (i := 545) (by decide +kernel)) rfl
theorem fl_Md_13 : kv_F "CutBlocksModel" 13 6 2 true := ⟨cR6, cT6, 24, rfl, by decide, cU6, rfl, Or.inl wf_Md_13⟩
theorem fp_Md_13 : kv_G "CutBlocksModel" 13 6 2 true (.array .int) true := ⟨cR6, cT6, 24, cY6, rfl, by decide, cU6, rfl, cP6, cN6, rfl, cP6 2 (by decide), fun _ => rfl, Or.inl wf_Md_13⟩
theorem wf_Md_16 : Cond.fieldLink "CutBlocksModel" 16 "CutBlocksModel" "table" "[I" ∈ kv_tb := kv_tb_in (List.mem_of_getElem? (i := 546) (by decide +kernel)) rfl
theorem fl_Md_16 : kv_F "CutBlocksModel" 16 6 3 true := ⟨cR6, cT6, 24, rfl, by decide, cU6, rfl, Or.inl wf_Md_16⟩
theorem fp_Md_16 : kv_G "CutBlocksModel" 16 6 3 true (.array .int) true := ⟨cR6, cT6, 24, cY6, rfl, by decide, cU6, rfl, cP6, cN6, rfl, cP6 3 (by decide), fun _ => rfl, Or.inl wf_Md_16⟩
theorem wf_Md_19 : Cond.fieldLink "CutBlocksModel" 19 "CutBlocksModel" "least" "I" ∈ kv_tb := kv_tb_in (List.mem_of_getElem? (i := 548) (by decide +kernel)) rfl
theorem fl_Md_19 : kv_F "CutBlocksModel" 19 6 5 false := ⟨cR6, cT6, 24, rfl, by decide, cU6, rfl, Or.inl wf_Md_19⟩
theorem fp_Md_19 : kv_G "CutBlocksModel" 19 6 5 false .int false := ⟨cR6, cT6, 24, cY6, rfl, by decide, cU6, rfl, cP6, cN6, rfl, cP6 5 (by decide), (fun h => by cases h), Or.inl wf_Md_19⟩
theorem wf_Md_23 : Cond.fieldLink "CutBlocksModel" 23 "CutBlocksModel" "greatest" "I" ∈ kv_tb := kv_tb_in (List.mem_of_getElem? (i := 549) (by decide +kernel)) rfl
theorem fl_Md_23 : kv_F "CutBlocksModel" 23 6 6 false := ⟨cR6, cT6, 24, rfl, by decide, cU6, rfl, Or.inl wf_Md_23⟩
theorem fp_Md_23 : kv_G "CutBlocksModel" 23 6 6 false .int false := ⟨cR6, cT6, 24, cY6, rfl, by decide, cU6, rfl, cP6, cN6, rfl, cP6 6 (by decide), (fun h => by cases h), Or.inl wf_Md_23⟩
theorem wf_Md_26 : Cond.fieldLink "CutBlocksModel" 26 "CutBlocksModel" "bits" "I" ∈ kv_tb := kv_tb_in (List.mem_of_getElem? (i := 550) (by decide +kernel)) rfl
theorem fl_Md_26 : kv_F "CutBlocksModel" 26 6 7 false := ⟨cR6, cT6, 24, rfl, by decide, cU6, rfl, Or.inl wf_Md_26⟩
theorem fp_Md_26 : kv_G "CutBlocksModel" 26 6 7 false .int false := ⟨cR6, cT6, 24, cY6, rfl, by decide, cU6, rfl, cP6, cN6, rfl, cP6 7 (by decide), (fun h => by cases h), Or.inl wf_Md_26⟩
theorem wf_Md_29 : Cond.fieldLink "CutBlocksModel" 29 "CutBlocksModel" "record" "I" ∈ kv_tb := kv_tb_in (List.mem_of_getElem? (i := 552) (by decide +kernel)) rfl
theorem fl_Md_29 : kv_F "CutBlocksModel" 29 6 9 false := ⟨cR6, cT6, 24, rfl, by decide, cU6, rfl, Or.inl wf_Md_29⟩
theorem fp_Md_29 : kv_G "CutBlocksModel" 29 6 9 false .int false := ⟨cR6, cT6, 24, cY6, rfl, by decide, cU6, rfl, cP6, cN6, rfl, cP6 9 (by decide), (fun h => by cases h), Or.inl wf_Md_29⟩
theorem wf_Md_32 : Cond.fieldLink "CutBlocksModel" 32 "CutBlocksModel" "begins" "[I" ∈ kv_tb := kv_tb_in (List.mem_of_getElem? (i := 553) (by decide +kernel)) rfl
theorem fl_Md_32 : kv_F "CutBlocksModel" 32 6 10 true := ⟨cR6, cT6, 24, rfl, by decide, cU6, rfl, Or.inl wf_Md_32⟩
theorem fp_Md_32 : kv_G "CutBlocksModel" 32 6 10 true (.array .int) true := ⟨cR6, cT6, 24, cY6, rfl, by decide, cU6, rfl, cP6, cN6, rfl, cP6 10 (by decide), fun _ => rfl, Or.inl wf_Md_32⟩
theorem wf_Md_35 : Cond.fieldLink "CutBlocksModel" 35 "CutBlocksModel" "others" "[I" ∈ kv_tb := kv_tb_in (List.mem_of_getElem? (i := 555) (by decide +kernel)) rfl
theorem fl_Md_35 : kv_F "CutBlocksModel" 35 6 12 true := ⟨cR6, cT6, 24, rfl, by decide, cU6, rfl, Or.inl wf_Md_35⟩
theorem fp_Md_35 : kv_G "CutBlocksModel" 35 6 12 true (.array .int) true := ⟨cR6, cT6, 24, cY6, rfl, by decide, cU6, rfl, cP6, cN6, rfl, cP6 12 (by decide), fun _ => rfl, Or.inl wf_Md_35⟩
theorem wf_Md_38 : Cond.fieldLink "CutBlocksModel" 38 "CutBlocksModel" "pool" "[I" ∈ kv_tb := kv_tb_in (List.mem_of_getElem? (i := 557) (by decide +kernel)) rfl
theorem fl_Md_38 : kv_F "CutBlocksModel" 38 6 14 true := ⟨cR6, cT6, 24, rfl, by decide, cU6, rfl, Or.inl wf_Md_38⟩
theorem fp_Md_38 : kv_G "CutBlocksModel" 38 6 14 true (.array .int) true := ⟨cR6, cT6, 24, cY6, rfl, by decide, cU6, rfl, cP6, cN6, rfl, cP6 14 (by decide), fun _ => rfl, Or.inl wf_Md_38⟩
theorem wf_Md_41 : Cond.fieldLink "CutBlocksModel" 41 "CutBlocksModel" "keptAt" "[I" ∈ kv_tb := kv_tb_in (List.mem_of_getElem? (i := 560) (by decide +kernel)) rfl
theorem fl_Md_41 : kv_F "CutBlocksModel" 41 6 17 true := ⟨cR6, cT6, 24, rfl, by decide, cU6, rfl, Or.inl wf_Md_41⟩
theorem fp_Md_41 : kv_G "CutBlocksModel" 41 6 17 true (.array .int) true := ⟨cR6, cT6, 24, cY6, rfl, by decide, cU6, rfl, cP6, cN6, rfl, cP6 17 (by decide), fun _ => rfl, Or.inl wf_Md_41⟩
theorem wf_Md_44 : Cond.fieldLink "CutBlocksModel" 44 "CutBlocksModel" "keptLong" "[I" ∈ kv_tb := kv_tb_in (List.mem_of_getElem? (i := 561) (by decide +kernel)) rfl
theorem fl_Md_44 : kv_F "CutBlocksModel" 44 6 18 true := ⟨cR6, cT6, 24, rfl, by decide, cU6, rfl, Or.inl wf_Md_44⟩
theorem fp_Md_44 : kv_G "CutBlocksModel" 44 6 18 true (.array .int) true := ⟨cR6, cT6, 24, cY6, rfl, by decide, cU6, rfl, cP6, cN6, rfl, cP6 18 (by decide), fun _ => rfl, Or.inl wf_Md_44⟩
theorem wf_Md_47 : Cond.fieldLink "CutBlocksModel" 47 "CutBlocksModel" "keptUses" "[I" ∈ kv_tb := kv_tb_in (List.mem_of_getElem? (i := 562) (by decide +kernel)) rfl
theorem fl_Md_47 : kv_F "CutBlocksModel" 47 6 19 true := ⟨cR6, cT6, 24, rfl, by decide, cU6, rfl, Or.inl wf_Md_47⟩
theorem fp_Md_47 : kv_G "CutBlocksModel" 47 6 19 true (.array .int) true := ⟨cR6, cT6, 24, cY6, rfl, by decide, cU6, rfl, cP6, cN6, rfl, cP6 19 (by decide), fun _ => rfl, Or.inl wf_Md_47⟩
theorem wf_Md_50 : Cond.fieldLink "CutBlocksModel" 50 "CutBlocksModel" "isThere" "[Z" ∈ kv_tb := kv_tb_in (List.mem_of_getElem? (i := 563) (by decide +kernel)) rfl
theorem fl_Md_50 : kv_F "CutBlocksModel" 50 6 20 true := ⟨cR6, cT6, 24, rfl, by decide, cU6, rfl, Or.inl wf_Md_50⟩
theorem fp_Md_50 : kv_G "CutBlocksModel" 50 6 20 true (.array .boolean) true := ⟨cR6, cT6, 24, cY6, rfl, by decide, cU6, rfl, cP6, cN6, rfl, cP6 20 (by decide), fun _ => rfl, Or.inl wf_Md_50⟩
theorem wf_Md_54 : Cond.fieldLink "CutBlocksModel" 54 "CutBlocksModel" "rowSize" "[I" ∈ kv_tb := kv_tb_in (List.mem_of_getElem? (i := 564) (by decide +kernel)) rfl
theorem fl_Md_54 : kv_F "CutBlocksModel" 54 6 21 true := ⟨cR6, cT6, 24, rfl, by decide, cU6, rfl, Or.inl wf_Md_54⟩
theorem fp_Md_54 : kv_G "CutBlocksModel" 54 6 21 true (.array .int) true := ⟨cR6, cT6, 24, cY6, rfl, by decide, cU6, rfl, cP6, cN6, rfl, cP6 21 (by decide), fun _ => rfl, Or.inl wf_Md_54⟩
theorem wf_Md_57 : Cond.fieldLink "CutBlocksModel" 57 "CutBlocksModel" "rows" "[I" ∈ kv_tb := kv_tb_in (List.mem_of_getElem? (i := 565) (by decide +kernel)) rfl
theorem fl_Md_57 : kv_F "CutBlocksModel" 57 6 22 true := ⟨cR6, cT6, 24, rfl, by decide, cU6, rfl, Or.inl wf_Md_57⟩
theorem fp_Md_57 : kv_G "CutBlocksModel" 57 6 22 true (.array .int) true := ⟨cR6, cT6, 24, cY6, rfl, by decide, cU6, rfl, cP6, cN6, rfl, cP6 22 (by decide), fun _ => rfl, Or.inl wf_Md_57⟩
theorem wf_Md_60 : Cond.fieldLink "CutBlocksModel" 60 "CutBlocksModel" "keys" "[I" ∈ kv_tb := kv_tb_in (List.mem_of_getElem? (i := 566) (by decide +kernel)) rfl
theorem fl_Md_60 : kv_F "CutBlocksModel" 60 6 23 true := ⟨cR6, cT6, 24, rfl, by decide, cU6, rfl, Or.inl wf_Md_60⟩
theorem fp_Md_60 : kv_G "CutBlocksModel" 60 6 23 true (.array .int) true := ⟨cR6, cT6, 24, cY6, rfl, by decide, cU6, rfl, cP6, cN6, rfl, cP6 23 (by decide), fun _ => rfl, Or.inl wf_Md_60⟩
theorem wf_Md_67 : Cond.fieldLink "CutBlocksModel" 67 "CutBlocksModel" "code" "I" ∈ kv_tb := kv_tb_in (List.mem_of_getElem? (i := 543) (by decide +kernel)) rfl
theorem fp_Md_67 : kv_G "CutBlocksModel" 67 6 0 false .int false := ⟨cR6, cT6, 24, cY6, rfl, by decide, cU6, rfl, cP6, cN6, rfl, cP6 0 (by decide), (fun h => by cases h), Or.inl wf_Md_67⟩
theorem wf_Md_76 : Cond.fieldLink "CutBlocksModel" 76 "CutBlocksModel" "mode" "I" ∈ kv_tb := kv_tb_in (List.mem_of_getElem? (i := 547) (by decide +kernel)) rfl
theorem fl_Md_76 : kv_F "CutBlocksModel" 76 6 4 false := ⟨cR6, cT6, 24, rfl, by decide, cU6, rfl, Or.inl wf_Md_76⟩
theorem fp_Md_76 : kv_G "CutBlocksModel" 76 6 4 false .int false := ⟨cR6, cT6, 24, cY6, rfl, by decide, cU6, rfl, cP6, cN6, rfl, cP6 4 (by decide), (fun h => by cases h), Or.inl wf_Md_76⟩
theorem wf_Md_79 : Cond.fieldLink "CutBlocksModel" 79 "CutBlocksModel" "level" "I" ∈ kv_tb := kv_tb_in (List.mem_of_getElem? (i := 551) (by decide +kernel)) rfl
theorem fl_Md_79 : kv_F "CutBlocksModel" 79 6 8 false := ⟨cR6, cT6, 24, rfl, by decide, cU6, rfl, Or.inl wf_Md_79⟩
theorem fp_Md_79 : kv_G "CutBlocksModel" 79 6 8 false .int false := ⟨cR6, cT6, 24, cY6, rfl, by decide, cU6, rfl, cP6, cN6, rfl, cP6 8 (by decide), (fun h => by cases h), Or.inl wf_Md_79⟩
theorem wf_Md_110 : Cond.fieldLink "CutBlocksModel" 110 "CutBlocksModel" "many" "I" ∈ kv_tb := kv_tb_in (List.mem_of_getElem? (i := 554) (by decide +kernel)) rfl
theorem fl_Md_110 : kv_F "CutBlocksModel" 110 6 11 false := ⟨cR6, cT6, 24, rfl, by decide, cU6, rfl, Or.inl wf_Md_110⟩
theorem fp_Md_110 : kv_G "CutBlocksModel" 110 6 11 false .int false := ⟨cR6, cT6, 24, cY6, rfl, by decide, cU6, rfl, cP6, cN6, rfl, cP6 11 (by decide), (fun h => by cases h), Or.inl wf_Md_110⟩
theorem wf_Md_133 : Cond.fieldLink "CutBlocksModel" 133 "CutBlocksModel" "otherMany" "I" ∈ kv_tb := kv_tb_in (List.mem_of_getElem? (i := 556) (by decide +kernel)) rfl
theorem fl_Md_133 : kv_F "CutBlocksModel" 133 6 13 false := ⟨cR6, cT6, 24, rfl, by decide, cU6, rfl, Or.inl wf_Md_133⟩
theorem fp_Md_133 : kv_G "CutBlocksModel" 133 6 13 false .int false := ⟨cR6, cT6, 24, cY6, rfl, by decide, cU6, rfl, cP6, cN6, rfl, cP6 13 (by decide), (fun h => by cases h), Or.inl wf_Md_133⟩
theorem wf_Md_140 : Cond.fieldLink "CutBlocksModel" 140 "CutBlocksModel" "keptMany" "I" ∈ kv_tb := kv_tb_in (List.mem_of_getElem? (i := 559) (by decide +kernel)) rfl
theorem fl_Md_140 : kv_F "CutBlocksModel" 140 6 16 false := ⟨cR6, cT6, 24, rfl, by decide, cU6, rfl, Or.inl wf_Md_140⟩
theorem fp_Md_140 : kv_G "CutBlocksModel" 140 6 16 false .int false := ⟨cR6, cT6, 24, cY6, rfl, by decide, cU6, rfl, cP6, cN6, rfl, cP6 16 (by decide), (fun h => by cases h), Or.inl wf_Md_140⟩
theorem wf_Md_143 : Cond.fieldLink "CutBlocksModel" 143 "CutBlocksModel" "poolSize" "I" ∈ kv_tb := kv_tb_in (List.mem_of_getElem? (i := 558) (by decide +kernel)) rfl
theorem fl_Md_143 : kv_F "CutBlocksModel" 143 6 15 false := ⟨cR6, cT6, 24, rfl, by decide, cU6, rfl, Or.inl wf_Md_143⟩
theorem fp_Md_143 : kv_G "CutBlocksModel" 143 6 15 false .int false := ⟨cR6, cT6, 24, cY6, rfl, by decide, cU6, rfl, cP6, cN6, rfl, cP6 15 (by decide), (fun h => by cases h), Or.inl wf_Md_143⟩
set_option maxRecDepth 20000 in
theorem wc_Cb_init : Cond.code y_Cb_init.2.1 y_Cb_init.2.2.1 y_Cb_init.2.2.2.1 y_Cb_init.2.2.2.2 ∈ kv_tb := kv_tb_in (List.mem_append_right _ (List.mem_append_left _ (List.mem_of_getElem? (i := 15) rfl : _ ∈ tables_1_1))) rfl
set_option maxRecDepth 20000 in
theorem wc_Rul_init : Cond.code y_Rul_init.2.1 y_Rul_init.2.2.1 y_Rul_init.2.2.2.1 y_Rul_init.2.2.2.2 ∈ kv_tb := kv_tb_in (List.mem_append_right _ (List.mem_append_left _ (List.mem_of_getElem? (i := 23) rfl : _ ∈ tables_1_1))) rfl
set_option maxRecDepth 20000 in
theorem wc_Rul_sow : Cond.code y_Rul_sow.2.1 y_Rul_sow.2.2.1 y_Rul_sow.2.2.2.1 y_Rul_sow.2.2.2.2 ∈ kv_tb := kv_tb_in (List.mem_append_right _ (List.mem_append_left _ (List.mem_of_getElem? (i := 28) rfl : _ ∈ tables_1_1))) rfl
set_option maxRecDepth 20000 in
theorem wc_Rul_take : Cond.code y_Rul_take.2.1 y_Rul_take.2.2.1 y_Rul_take.2.2.2.1 y_Rul_take.2.2.2.2 ∈ kv_tb := kv_tb_in (List.mem_append_right _ (List.mem_append_left _ (List.mem_of_getElem? (i := 34) rfl : _ ∈ tables_1_1))) rfl
set_option maxRecDepth 20000 in
theorem wc_Txt_init : Cond.code y_Txt_init.2.1 y_Txt_init.2.2.1 y_Txt_init.2.2.2.1 y_Txt_init.2.2.2.2 ∈ kv_tb := kv_tb_in (List.mem_append_right _ (List.mem_append_left _ (List.mem_of_getElem? (i := 63) rfl : _ ∈ tables_1_1))) rfl
set_option maxRecDepth 20000 in
theorem wc_Row_init : Cond.code y_Row_init.2.1 y_Row_init.2.2.1 y_Row_init.2.2.2.1 y_Row_init.2.2.2.2 ∈ kv_tb := kv_tb_in (List.mem_append_right _ (List.mem_append_left _ (List.mem_of_getElem? (i := 69) rfl : _ ∈ tables_1_1))) rfl
set_option maxRecDepth 20000 in
theorem wc_Row_unchain : Cond.code y_Row_unchain.2.1 y_Row_unchain.2.2.1 y_Row_unchain.2.2.2.1 y_Row_unchain.2.2.2.2 ∈ kv_tb := kv_tb_in (List.mem_append_right _ (List.mem_append_left _ (List.mem_of_getElem? (i := 74) rfl : _ ∈ tables_1_1))) rfl
set_option maxRecDepth 20000 in
theorem wc_Arr_fill : Cond.code y_Arr_fill.2.1 y_Arr_fill.2.2.1 y_Arr_fill.2.2.2.1 y_Arr_fill.2.2.2.2 ∈ kv_tb := kv_tb_in (List.mem_append_right _ (List.mem_append_left _ (List.mem_of_getElem? (i := 77) rfl : _ ∈ tables_1_1))) rfl
set_option maxRecDepth 20000 in
theorem wc_Sto_init : Cond.code y_Sto_init.2.1 y_Sto_init.2.2.1 y_Sto_init.2.2.2.1 y_Sto_init.2.2.2.2 ∈ kv_tb := kv_tb_in (List.mem_append_right _ (List.mem_append_left _ (List.mem_of_getElem? (i := 125) rfl : _ ∈ tables_1_1))) rfl
set_option maxRecDepth 20000 in
theorem wc_Snp_init : Cond.code y_Snp_init.2.1 y_Snp_init.2.2.1 y_Snp_init.2.2.2.1 y_Snp_init.2.2.2.2 ∈ kv_tb := kv_tb_in (List.mem_append_right _ (List.mem_append_left _ (List.mem_of_getElem? (i := 134) rfl : _ ∈ tables_1_1))) rfl
set_option maxRecDepth 20000 in
theorem wc_Cb_seed : Cond.code y_Cb_seed.2.1 y_Cb_seed.2.2.1 y_Cb_seed.2.2.2.1 y_Cb_seed.2.2.2.2 ∈ kv_tb := kv_tb_in (List.mem_append_right _ (List.mem_append_left _ (List.mem_of_getElem? (i := 180) rfl : _ ∈ tables_1_1))) rfl
set_option maxRecDepth 20000 in
theorem wc_Cb_forgetAllCuts : Cond.code y_Cb_forgetAllCuts.2.1 y_Cb_forgetAllCuts.2.2.1 y_Cb_forgetAllCuts.2.2.2.1 y_Cb_forgetAllCuts.2.2.2.2 ∈ kv_tb := kv_tb_in (List.mem_append_right _ (List.mem_append_left _ (List.mem_of_getElem? (i := 185) rfl : _ ∈ tables_1_1))) rfl
set_option maxRecDepth 20000 in
theorem wc_Txt_forgetCuts : Cond.code y_Txt_forgetCuts.2.1 y_Txt_forgetCuts.2.2.1 y_Txt_forgetCuts.2.2.2.1 y_Txt_forgetCuts.2.2.2.2 ∈ kv_tb := kv_tb_in (List.mem_append_right _ (List.mem_append_left _ (List.mem_of_getElem? (i := 189) rfl : _ ∈ tables_1_1))) rfl
set_option maxRecDepth 20000 in
theorem wc_Cb_rule : Cond.code y_Cb_rule.2.1 y_Cb_rule.2.2.1 y_Cb_rule.2.2.2.1 y_Cb_rule.2.2.2.2 ∈ kv_tb := kv_tb_in (List.mem_append_right _ (List.mem_append_left _ (List.mem_of_getElem? (i := 193) rfl : _ ∈ tables_1_1))) rfl
set_option maxRecDepth 20000 in
theorem wc_Rul_fit : Cond.code y_Rul_fit.2.1 y_Rul_fit.2.2.1 y_Rul_fit.2.2.2.1 y_Rul_fit.2.2.2.2 ∈ kv_tb := kv_tb_in (List.mem_append_right _ (List.mem_append_left _ (List.mem_of_getElem? (i := 196) rfl : _ ∈ tables_1_1))) rfl
set_option maxRecDepth 20000 in
theorem wc_Cb_add : Cond.code y_Cb_add.2.1 y_Cb_add.2.2.1 y_Cb_add.2.2.2.1 y_Cb_add.2.2.2.2 ∈ kv_tb := kv_tb_in (List.mem_append_right _ (List.mem_append_left _ (List.mem_of_getElem? (i := 201) rfl : _ ∈ tables_1_1))) rfl
set_option maxRecDepth 20000 in
theorem wc_Cb_isText : Cond.code y_Cb_isText.2.1 y_Cb_isText.2.2.1 y_Cb_isText.2.2.2.1 y_Cb_isText.2.2.2.2 ∈ kv_tb := kv_tb_in (List.mem_append_right _ (List.mem_append_left _ (List.mem_of_getElem? (i := 204) rfl : _ ∈ tables_1_1))) rfl
set_option maxRecDepth 20000 in
theorem wc_Cb_isByte : Cond.code y_Cb_isByte.2.1 y_Cb_isByte.2.2.1 y_Cb_isByte.2.2.2.1 y_Cb_isByte.2.2.2.2 ∈ kv_tb := kv_tb_in (List.mem_append_right _ (List.mem_append_left _ (List.mem_of_getElem? (i := 207) rfl : _ ∈ tables_1_1))) rfl
set_option maxRecDepth 20000 in
theorem wc_Txt_put : Cond.code y_Txt_put.2.1 y_Txt_put.2.2.1 y_Txt_put.2.2.2.1 y_Txt_put.2.2.2.2 ∈ kv_tb := kv_tb_in (List.mem_append_right _ (List.mem_append_left _ (List.mem_of_getElem? (i := 211) rfl : _ ∈ tables_1_1))) rfl
set_option maxRecDepth 20000 in
theorem wc_Txt_changedTo : Cond.code y_Txt_changedTo.2.1 y_Txt_changedTo.2.2.1 y_Txt_changedTo.2.2.2.1 y_Txt_changedTo.2.2.2.2 ∈ kv_tb := kv_tb_in (List.mem_append_right _ (List.mem_append_left _ (List.mem_of_getElem? (i := 218) rfl : _ ∈ tables_1_1))) rfl
set_option maxRecDepth 20000 in
theorem wc_Cb_fill : Cond.code y_Cb_fill.2.1 y_Cb_fill.2.2.1 y_Cb_fill.2.2.2.1 y_Cb_fill.2.2.2.2 ∈ kv_tb := kv_tb_in (List.mem_append_right _ (List.mem_append_left _ (List.mem_of_getElem? (i := 223) rfl : _ ∈ tables_1_1))) rfl
set_option maxRecDepth 20000 in
theorem wc_Txt_sow : Cond.code y_Txt_sow.2.1 y_Txt_sow.2.2.1 y_Txt_sow.2.2.2.1 y_Txt_sow.2.2.2.2 ∈ kv_tb := kv_tb_in (List.mem_append_right _ (List.mem_append_left _ (List.mem_of_getElem? (i := 227) rfl : _ ∈ tables_1_1))) rfl
set_option maxRecDepth 20000 in
theorem wc_Cb_insert : Cond.code y_Cb_insert.2.1 y_Cb_insert.2.2.1 y_Cb_insert.2.2.2.1 y_Cb_insert.2.2.2.2 ∈ kv_tb := kv_tb_in (List.mem_append_right _ (List.mem_append_left _ (List.mem_of_getElem? (i := 232) rfl : _ ∈ tables_1_1))) rfl
set_option maxRecDepth 20000 in
theorem wc_Cb_remove : Cond.code y_Cb_remove.2.1 y_Cb_remove.2.2.1 y_Cb_remove.2.2.2.1 y_Cb_remove.2.2.2.2 ∈ kv_tb := kv_tb_in (List.mem_append_right _ (List.mem_append_left _ (List.mem_of_getElem? (i := 236) rfl : _ ∈ tables_1_1))) rfl
set_option maxRecDepth 20000 in
theorem wc_Txt_take : Cond.code y_Txt_take.2.1 y_Txt_take.2.2.1 y_Txt_take.2.2.2.1 y_Txt_take.2.2.2.2 ∈ kv_tb := kv_tb_in (List.mem_append_right _ (List.mem_append_right _ (List.mem_append_left _ (List.mem_of_getElem? (i := 0) rfl : _ ∈ tables_1_2)))) rfl
set_option maxRecDepth 20000 in
theorem wc_Cb_copy : Cond.code y_Cb_copy.2.1 y_Cb_copy.2.2.1 y_Cb_copy.2.2.2.1 y_Cb_copy.2.2.2.2 ∈ kv_tb := kv_tb_in (List.mem_append_right _ (List.mem_append_right _ (List.mem_append_left _ (List.mem_of_getElem? (i := 4) rfl : _ ∈ tables_1_2)))) rfl
set_option maxRecDepth 20000 in
theorem wc_Txt_become : Cond.code y_Txt_become.2.1 y_Txt_become.2.2.1 y_Txt_become.2.2.2.1 y_Txt_become.2.2.2.2 ∈ kv_tb := kv_tb_in (List.mem_append_right _ (List.mem_append_right _ (List.mem_append_left _ (List.mem_of_getElem? (i := 8) rfl : _ ∈ tables_1_2)))) rfl
set_option maxRecDepth 20000 in
theorem wc_Cb_size : Cond.code y_Cb_size.2.1 y_Cb_size.2.2.1 y_Cb_size.2.2.2.1 y_Cb_size.2.2.2.2 ∈ kv_tb := kv_tb_in (List.mem_append_right _ (List.mem_append_right _ (List.mem_append_left _ (List.mem_of_getElem? (i := 12) rfl : _ ∈ tables_1_2)))) rfl
set_option maxRecDepth 20000 in
theorem wc_Cb_byteAt : Cond.code y_Cb_byteAt.2.1 y_Cb_byteAt.2.2.1 y_Cb_byteAt.2.2.2.1 y_Cb_byteAt.2.2.2.2 ∈ kv_tb := kv_tb_in (List.mem_append_right _ (List.mem_append_right _ (List.mem_append_left _ (List.mem_of_getElem? (i := 16) rfl : _ ∈ tables_1_2)))) rfl
set_option maxRecDepth 20000 in
theorem wc_Cb_hasByte : Cond.code y_Cb_hasByte.2.1 y_Cb_hasByte.2.2.1 y_Cb_hasByte.2.2.2.1 y_Cb_hasByte.2.2.2.2 ∈ kv_tb := kv_tb_in (List.mem_append_right _ (List.mem_append_right _ (List.mem_append_left _ (List.mem_of_getElem? (i := 20) rfl : _ ∈ tables_1_2)))) rfl
set_option maxRecDepth 20000 in
theorem wc_Cb_blocks : Cond.code y_Cb_blocks.2.1 y_Cb_blocks.2.2.1 y_Cb_blocks.2.2.2.1 y_Cb_blocks.2.2.2.2 ∈ kv_tb := kv_tb_in (List.mem_append_right _ (List.mem_append_right _ (List.mem_append_left _ (List.mem_of_getElem? (i := 24) rfl : _ ∈ tables_1_2)))) rfl
set_option maxRecDepth 20000 in
theorem wc_Cb_cutRow : Cond.code y_Cb_cutRow.2.1 y_Cb_cutRow.2.2.1 y_Cb_cutRow.2.2.2.1 y_Cb_cutRow.2.2.2.2 ∈ kv_tb := kv_tb_in (List.mem_append_right _ (List.mem_append_right _ (List.mem_append_left _ (List.mem_of_getElem? (i := 28) rfl : _ ∈ tables_1_2)))) rfl
set_option maxRecDepth 20000 in
theorem wc_Txt_cutBy : Cond.code y_Txt_cutBy.2.1 y_Txt_cutBy.2.2.1 y_Txt_cutBy.2.2.2.1 y_Txt_cutBy.2.2.2.2 ∈ kv_tb := kv_tb_in (List.mem_append_right _ (List.mem_append_right _ (List.mem_append_left _ (List.mem_of_getElem? (i := 32) rfl : _ ∈ tables_1_2)))) rfl
set_option maxRecDepth 20000 in
theorem wc_Row_end : Cond.code y_Row_end.2.1 y_Row_end.2.2.1 y_Row_end.2.2.2.1 y_Row_end.2.2.2.2 ∈ kv_tb := kv_tb_in (List.mem_append_right _ (List.mem_append_right _ (List.mem_append_left _ (List.mem_of_getElem? (i := 36) rfl : _ ∈ tables_1_2)))) rfl
set_option maxRecDepth 20000 in
theorem wc_Rul_endOfBlock : Cond.code y_Rul_endOfBlock.2.1 y_Rul_endOfBlock.2.2.1 y_Rul_endOfBlock.2.2.2.1 y_Rul_endOfBlock.2.2.2.2 ∈ kv_tb := kv_tb_in (List.mem_append_right _ (List.mem_append_right _ (List.mem_append_left _ (List.mem_of_getElem? (i := 40) rfl : _ ∈ tables_1_2)))) rfl
set_option maxRecDepth 20000 in
theorem wc_Rul_numberWith : Cond.code y_Rul_numberWith.2.1 y_Rul_numberWith.2.2.1 y_Rul_numberWith.2.2.2.1 y_Rul_numberWith.2.2.2.2 ∈ kv_tb := kv_tb_in (List.mem_append_right _ (List.mem_append_right _ (List.mem_append_left _ (List.mem_of_getElem? (i := 44) rfl : _ ∈ tables_1_2)))) rfl
set_option maxRecDepth 20000 in
theorem wc_Rul_turnedLeft : Cond.code y_Rul_turnedLeft.2.1 y_Rul_turnedLeft.2.2.1 y_Rul_turnedLeft.2.2.2.1 y_Rul_turnedLeft.2.2.2.2 ∈ kv_tb := kv_tb_in (List.mem_append_right _ (List.mem_append_right _ (List.mem_append_left _ (List.mem_of_getElem? (i := 47) rfl : _ ∈ tables_1_2)))) rfl
set_option maxRecDepth 20000 in
theorem wc_Rul_allowed : Cond.code y_Rul_allowed.2.1 y_Rul_allowed.2.2.1 y_Rul_allowed.2.2.2.1 y_Rul_allowed.2.2.2.2 ∈ kv_tb := kv_tb_in (List.mem_append_right _ (List.mem_append_right _ (List.mem_append_left _ (List.mem_of_getElem? (i := 51) rfl : _ ∈ tables_1_2)))) rfl
set_option maxRecDepth 20000 in
theorem wc_Rul_marksAt : Cond.code y_Rul_marksAt.2.1 y_Rul_marksAt.2.2.1 y_Rul_marksAt.2.2.2.1 y_Rul_marksAt.2.2.2.2 ∈ kv_tb := kv_tb_in (List.mem_append_right _ (List.mem_append_right _ (List.mem_append_left _ (List.mem_of_getElem? (i := 55) rfl : _ ∈ tables_1_2)))) rfl
set_option maxRecDepth 20000 in
theorem wc_Rul_marked : Cond.code y_Rul_marked.2.1 y_Rul_marked.2.2.1 y_Rul_marked.2.2.2.1 y_Rul_marked.2.2.2.2 ∈ kv_tb := kv_tb_in (List.mem_append_right _ (List.mem_append_right _ (List.mem_append_left _ (List.mem_of_getElem? (i := 58) rfl : _ ∈ tables_1_2)))) rfl
set_option maxRecDepth 20000 in
theorem wc_Row_close : Cond.code y_Row_close.2.1 y_Row_close.2.2.1 y_Row_close.2.2.2.1 y_Row_close.2.2.2.2 ∈ kv_tb := kv_tb_in (List.mem_append_right _ (List.mem_append_right _ (List.mem_append_left _ (List.mem_of_getElem? (i := 62) rfl : _ ∈ tables_1_2)))) rfl
set_option maxRecDepth 20000 in
theorem wc_Cb_block : Cond.code y_Cb_block.2.1 y_Cb_block.2.2.1 y_Cb_block.2.2.2.1 y_Cb_block.2.2.2.2 ∈ kv_tb := kv_tb_in (List.mem_append_right _ (List.mem_append_right _ (List.mem_append_left _ (List.mem_of_getElem? (i := 66) rfl : _ ∈ tables_1_2)))) rfl
set_option maxRecDepth 20000 in
theorem wc_Cb_hasBlock : Cond.code y_Cb_hasBlock.2.1 y_Cb_hasBlock.2.2.1 y_Cb_hasBlock.2.2.2.1 y_Cb_hasBlock.2.2.2.2 ∈ kv_tb := kv_tb_in (List.mem_append_right _ (List.mem_append_right _ (List.mem_append_left _ (List.mem_of_getElem? (i := 70) rfl : _ ∈ tables_1_2)))) rfl
set_option maxRecDepth 20000 in
theorem wc_Row_bytesOf : Cond.code y_Row_bytesOf.2.1 y_Row_bytesOf.2.2.1 y_Row_bytesOf.2.2.2.1 y_Row_bytesOf.2.2.2.2 ∈ kv_tb := kv_tb_in (List.mem_append_right _ (List.mem_append_right _ (List.mem_append_left _ (List.mem_of_getElem? (i := 74) rfl : _ ∈ tables_1_2)))) rfl
set_option maxRecDepth 20000 in
theorem wc_Cb_digest : Cond.code y_Cb_digest.2.1 y_Cb_digest.2.2.1 y_Cb_digest.2.2.2.1 y_Cb_digest.2.2.2.2 ∈ kv_tb := kv_tb_in (List.mem_append_right _ (List.mem_append_right _ (List.mem_append_left _ (List.mem_of_getElem? (i := 78) rfl : _ ∈ tables_1_2)))) rfl
set_option maxRecDepth 20000 in
theorem wc_Row_mixedSum : Cond.code y_Row_mixedSum.2.1 y_Row_mixedSum.2.2.1 y_Row_mixedSum.2.2.2.1 y_Row_mixedSum.2.2.2.2 ∈ kv_tb := kv_tb_in (List.mem_append_right _ (List.mem_append_right _ (List.mem_append_left _ (List.mem_of_getElem? (i := 83) rfl : _ ∈ tables_1_2)))) rfl
set_option maxRecDepth 20000 in
theorem wc_Cb_unsigned : Cond.code y_Cb_unsigned.2.1 y_Cb_unsigned.2.2.1 y_Cb_unsigned.2.2.2.1 y_Cb_unsigned.2.2.2.2 ∈ kv_tb := kv_tb_in (List.mem_append_right _ (List.mem_append_right _ (List.mem_append_left _ (List.mem_of_getElem? (i := 88) rfl : _ ∈ tables_1_2)))) rfl
set_option maxRecDepth 20000 in
theorem wc_Row_doubleSum : Cond.code y_Row_doubleSum.2.1 y_Row_doubleSum.2.2.1 y_Row_doubleSum.2.2.2.1 y_Row_doubleSum.2.2.2.2 ∈ kv_tb := kv_tb_in (List.mem_append_right _ (List.mem_append_right _ (List.mem_append_left _ (List.mem_of_getElem? (i := 93) rfl : _ ∈ tables_1_2)))) rfl
set_option maxRecDepth 20000 in
theorem wc_Cb_hash : Cond.code y_Cb_hash.2.1 y_Cb_hash.2.2.1 y_Cb_hash.2.2.2.1 y_Cb_hash.2.2.2.2 ∈ kv_tb := kv_tb_in (List.mem_append_right _ (List.mem_append_right _ (List.mem_append_left _ (List.mem_of_getElem? (i := 99) rfl : _ ∈ tables_1_2)))) rfl
set_option maxRecDepth 20000 in
theorem wc_Row_startOfBlockWith : Cond.code y_Row_startOfBlockWith.2.1 y_Row_startOfBlockWith.2.2.1 y_Row_startOfBlockWith.2.2.2.1 y_Row_startOfBlockWith.2.2.2.2 ∈ kv_tb := kv_tb_in (List.mem_append_right _ (List.mem_append_right _ (List.mem_append_left _ (List.mem_of_getElem? (i := 103) rfl : _ ∈ tables_1_2)))) rfl
set_option maxRecDepth 20000 in
theorem wc_Rul_numberAt : Cond.code y_Rul_numberAt.2.1 y_Rul_numberAt.2.2.1 y_Rul_numberAt.2.2.2.1 y_Rul_numberAt.2.2.2.2 ∈ kv_tb := kv_tb_in (List.mem_append_right _ (List.mem_append_right _ (List.mem_append_left _ (List.mem_of_getElem? (i := 107) rfl : _ ∈ tables_1_2)))) rfl
set_option maxRecDepth 20000 in
theorem wc_Cb_alike : Cond.code y_Cb_alike.2.1 y_Cb_alike.2.2.1 y_Cb_alike.2.2.2.1 y_Cb_alike.2.2.2.2 ∈ kv_tb := kv_tb_in (List.mem_append_right _ (List.mem_append_right _ (List.mem_append_left _ (List.mem_of_getElem? (i := 111) rfl : _ ∈ tables_1_2)))) rfl
set_option maxRecDepth 20000 in
theorem wc_Cb_indexedRow : Cond.code y_Cb_indexedRow.2.1 y_Cb_indexedRow.2.2.1 y_Cb_indexedRow.2.2.2.1 y_Cb_indexedRow.2.2.2.2 ∈ kv_tb := kv_tb_in (List.mem_append_right _ (List.mem_append_right _ (List.mem_append_left _ (List.mem_of_getElem? (i := 115) rfl : _ ∈ tables_1_2)))) rfl
set_option maxRecDepth 20000 in
theorem wc_Txt_indexBy : Cond.code y_Txt_indexBy.2.1 y_Txt_indexBy.2.2.1 y_Txt_indexBy.2.2.2.1 y_Txt_indexBy.2.2.2.2 ∈ kv_tb := kv_tb_in (List.mem_append_right _ (List.mem_append_right _ (List.mem_append_left _ (List.mem_of_getElem? (i := 119) rfl : _ ∈ tables_1_2)))) rfl
set_option maxRecDepth 20000 in
theorem wc_Row_index : Cond.code y_Row_index.2.1 y_Row_index.2.2.1 y_Row_index.2.2.2.1 y_Row_index.2.2.2.2 ∈ kv_tb := kv_tb_in (List.mem_append_right _ (List.mem_append_right _ (List.mem_append_left _ (List.mem_of_getElem? (i := 124) rfl : _ ∈ tables_1_2)))) rfl
set_option maxRecDepth 20000 in
theorem wc_Row_find : Cond.code y_Row_find.2.1 y_Row_find.2.2.1 y_Row_find.2.2.2.1 y_Row_find.2.2.2.2 ∈ kv_tb := kv_tb_in (List.mem_append_right _ (List.mem_append_right _ (List.mem_append_left _ (List.mem_of_getElem? (i := 129) rfl : _ ∈ tables_1_2)))) rfl
set_option maxRecDepth 20000 in
theorem wc_Row_isLike : Cond.code y_Row_isLike.2.1 y_Row_isLike.2.2.1 y_Row_isLike.2.2.2.1 y_Row_isLike.2.2.2.2 ∈ kv_tb := kv_tb_in (List.mem_append_right _ (List.mem_append_right _ (List.mem_append_left _ (List.mem_of_getElem? (i := 133) rfl : _ ∈ tables_1_2)))) rfl
set_option maxRecDepth 20000 in
theorem wc_Row_chain : Cond.code y_Row_chain.2.1 y_Row_chain.2.2.1 y_Row_chain.2.2.2.1 y_Row_chain.2.2.2.2 ∈ kv_tb := kv_tb_in (List.mem_append_right _ (List.mem_append_right _ (List.mem_append_left _ (List.mem_of_getElem? (i := 138) rfl : _ ∈ tables_1_2)))) rfl
set_option maxRecDepth 20000 in
theorem wc_Row_blocksIn : Cond.code y_Row_blocksIn.2.1 y_Row_blocksIn.2.2.1 y_Row_blocksIn.2.2.2.1 y_Row_blocksIn.2.2.2.2 ∈ kv_tb := kv_tb_in (List.mem_append_right _ (List.mem_append_right _ (List.mem_append_left _ (List.mem_of_getElem? (i := 142) rfl : _ ∈ tables_1_2)))) rfl
set_option maxRecDepth 20000 in
theorem wc_Row_bytesIn : Cond.code y_Row_bytesIn.2.1 y_Row_bytesIn.2.2.1 y_Row_bytesIn.2.2.2.1 y_Row_bytesIn.2.2.2.2 ∈ kv_tb := kv_tb_in (List.mem_append_right _ (List.mem_append_right _ (List.mem_append_left _ (List.mem_of_getElem? (i := 146) rfl : _ ∈ tables_1_2)))) rfl
set_option maxRecDepth 20000 in
theorem wc_Row_firstLike : Cond.code y_Row_firstLike.2.1 y_Row_firstLike.2.2.1 y_Row_firstLike.2.2.2.1 y_Row_firstLike.2.2.2.2 ∈ kv_tb := kv_tb_in (List.mem_append_right _ (List.mem_append_right _ (List.mem_append_left _ (List.mem_of_getElem? (i := 150) rfl : _ ∈ tables_1_2)))) rfl
set_option maxRecDepth 20000 in
theorem wc_Row_lastLike : Cond.code y_Row_lastLike.2.1 y_Row_lastLike.2.2.1 y_Row_lastLike.2.2.2.1 y_Row_lastLike.2.2.2.2 ∈ kv_tb := kv_tb_in (List.mem_append_right _ (List.mem_append_right _ (List.mem_append_left _ (List.mem_of_getElem? (i := 157) rfl : _ ∈ tables_1_2)))) rfl
set_option maxRecDepth 20000 in
theorem wc_Cb_keep : Cond.code y_Cb_keep.2.1 y_Cb_keep.2.2.1 y_Cb_keep.2.2.2.1 y_Cb_keep.2.2.2.2 ∈ kv_tb := kv_tb_in (List.mem_append_right _ (List.mem_append_right _ (List.mem_append_left _ (List.mem_of_getElem? (i := 161) rfl : _ ∈ tables_1_2)))) rfl
set_option maxRecDepth 20000 in
theorem wc_Sto_takeIn : Cond.code y_Sto_takeIn.2.1 y_Sto_takeIn.2.2.1 y_Sto_takeIn.2.2.2.1 y_Sto_takeIn.2.2.2.2 ∈ kv_tb := kv_tb_in (List.mem_append_right _ (List.mem_append_right _ (List.mem_append_left _ (List.mem_of_getElem? (i := 165) rfl : _ ∈ tables_1_2)))) rfl
set_option maxRecDepth 20000 in
theorem wc_Sto_leastFree : Cond.code y_Sto_leastFree.2.1 y_Sto_leastFree.2.2.1 y_Sto_leastFree.2.2.2.1 y_Sto_leastFree.2.2.2.2 ∈ kv_tb := kv_tb_in (List.mem_append_right _ (List.mem_append_right _ (List.mem_append_left _ (List.mem_of_getElem? (i := 169) rfl : _ ∈ tables_1_2)))) rfl
set_option maxRecDepth 20000 in
theorem wc_Row_hasRoomFor : Cond.code y_Row_hasRoomFor.2.1 y_Row_hasRoomFor.2.2.1 y_Row_hasRoomFor.2.2.2.1 y_Row_hasRoomFor.2.2.2.2 ∈ kv_tb := kv_tb_in (List.mem_append_right _ (List.mem_append_right _ (List.mem_append_left _ (List.mem_of_getElem? (i := 175) rfl : _ ∈ tables_1_2)))) rfl
set_option maxRecDepth 20000 in
theorem wc_Sto_sweep : Cond.code y_Sto_sweep.2.1 y_Sto_sweep.2.2.1 y_Sto_sweep.2.2.2.1 y_Sto_sweep.2.2.2.2 ∈ kv_tb := kv_tb_in (List.mem_append_right _ (List.mem_append_right _ (List.mem_append_left _ (List.mem_of_getElem? (i := 180) rfl : _ ∈ tables_1_2)))) rfl
set_option maxRecDepth 20000 in
theorem wc_Row_append : Cond.code y_Row_append.2.1 y_Row_append.2.2.1 y_Row_append.2.2.2.1 y_Row_append.2.2.2.2 ∈ kv_tb := kv_tb_in (List.mem_append_right _ (List.mem_append_right _ (List.mem_append_left _ (List.mem_of_getElem? (i := 186) rfl : _ ∈ tables_1_2)))) rfl
set_option maxRecDepth 20000 in
theorem wc_Sto_renumber : Cond.code y_Sto_renumber.2.1 y_Sto_renumber.2.2.1 y_Sto_renumber.2.2.2.1 y_Sto_renumber.2.2.2.2 ∈ kv_tb := kv_tb_in (List.mem_append_right _ (List.mem_append_right _ (List.mem_append_left _ (List.mem_of_getElem? (i := 192) rfl : _ ∈ tables_1_2)))) rfl
set_option maxRecDepth 20000 in
theorem wc_Sto_takeInNew : Cond.code y_Sto_takeInNew.2.1 y_Sto_takeInNew.2.2.1 y_Sto_takeInNew.2.2.2.1 y_Sto_takeInNew.2.2.2.2 ∈ kv_tb := kv_tb_in (List.mem_append_right _ (List.mem_append_right _ (List.mem_append_left _ (List.mem_of_getElem? (i := 196) rfl : _ ∈ tables_1_2)))) rfl
set_option maxRecDepth 20000 in
theorem wc_Sto_countPlaces : Cond.code y_Sto_countPlaces.2.1 y_Sto_countPlaces.2.2.1 y_Sto_countPlaces.2.2.2.1 y_Sto_countPlaces.2.2.2.2 ∈ kv_tb := kv_tb_in (List.mem_append_right _ (List.mem_append_right _ (List.mem_append_left _ (List.mem_of_getElem? (i := 200) rfl : _ ∈ tables_1_2)))) rfl
set_option maxRecDepth 20000 in
theorem wc_Cb_drop : Cond.code y_Cb_drop.2.1 y_Cb_drop.2.2.1 y_Cb_drop.2.2.2.1 y_Cb_drop.2.2.2.2 ∈ kv_tb := kv_tb_in (List.mem_append_right _ (List.mem_append_right _ (List.mem_append_left _ (List.mem_of_getElem? (i := 204) rfl : _ ∈ tables_1_2)))) rfl
set_option maxRecDepth 20000 in
theorem wc_Sto_has : Cond.code y_Sto_has.2.1 y_Sto_has.2.2.1 y_Sto_has.2.2.2.1 y_Sto_has.2.2.2.2 ∈ kv_tb := kv_tb_in (List.mem_append_right _ (List.mem_append_right _ (List.mem_append_left _ (List.mem_of_getElem? (i := 208) rfl : _ ∈ tables_1_2)))) rfl
set_option maxRecDepth 20000 in
theorem wc_Sto_letGo : Cond.code y_Sto_letGo.2.1 y_Sto_letGo.2.2.1 y_Sto_letGo.2.2.2.1 y_Sto_letGo.2.2.2.2 ∈ kv_tb := kv_tb_in (List.mem_append_right _ (List.mem_append_right _ (List.mem_append_left _ (List.mem_of_getElem? (i := 212) rfl : _ ∈ tables_1_2)))) rfl
set_option maxRecDepth 20000 in
theorem wc_Cb_restore : Cond.code y_Cb_restore.2.1 y_Cb_restore.2.2.1 y_Cb_restore.2.2.2.1 y_Cb_restore.2.2.2.2 ∈ kv_tb := kv_tb_in (List.mem_append_right _ (List.mem_append_right _ (List.mem_append_left _ (List.mem_of_getElem? (i := 216) rfl : _ ∈ tables_1_2)))) rfl
set_option maxRecDepth 20000 in
theorem wc_Sto_giveBack : Cond.code y_Sto_giveBack.2.1 y_Sto_giveBack.2.2.1 y_Sto_giveBack.2.2.2.1 y_Sto_giveBack.2.2.2.2 ∈ kv_tb := kv_tb_in (List.mem_append_right _ (List.mem_append_right _ (List.mem_append_left _ (List.mem_of_getElem? (i := 220) rfl : _ ∈ tables_1_2)))) rfl
set_option maxRecDepth 20000 in
theorem wc_Cb_told : Cond.code y_Cb_told.2.1 y_Cb_told.2.2.1 y_Cb_told.2.2.2.1 y_Cb_told.2.2.2.2 ∈ kv_tb := kv_tb_in (List.mem_append_right _ (List.mem_append_right _ (List.mem_append_left _ (List.mem_of_getElem? (i := 226) rfl : _ ∈ tables_1_2)))) rfl
set_option maxRecDepth 20000 in
theorem wc_Cb_uses : Cond.code y_Cb_uses.2.1 y_Cb_uses.2.2.1 y_Cb_uses.2.2.2.1 y_Cb_uses.2.2.2.2 ∈ kv_tb := kv_tb_in (List.mem_append_right _ (List.mem_append_right _ (List.mem_append_left _ (List.mem_of_getElem? (i := 230) rfl : _ ∈ tables_1_2)))) rfl
set_option maxRecDepth 20000 in
theorem wc_Sto_placesOf : Cond.code y_Sto_placesOf.2.1 y_Sto_placesOf.2.2.1 y_Sto_placesOf.2.2.2.1 y_Sto_placesOf.2.2.2.2 ∈ kv_tb := kv_tb_in (List.mem_append_right _ (List.mem_append_right _ (List.mem_append_left _ (List.mem_of_getElem? (i := 234) rfl : _ ∈ tables_1_2)))) rfl
set_option maxRecDepth 20000 in
theorem wc_Cb_kept : Cond.code y_Cb_kept.2.1 y_Cb_kept.2.2.1 y_Cb_kept.2.2.2.1 y_Cb_kept.2.2.2.2 ∈ kv_tb := kv_tb_in (List.mem_append_right _ (List.mem_append_right _ (List.mem_append_left _ (List.mem_of_getElem? (i := 238) rfl : _ ∈ tables_1_2)))) rfl
set_option maxRecDepth 20000 in
theorem wc_Sto_snapshotsThere : Cond.code y_Sto_snapshotsThere.2.1 y_Sto_snapshotsThere.2.2.1 y_Sto_snapshotsThere.2.2.2.1 y_Sto_snapshotsThere.2.2.2.2 ∈ kv_tb := kv_tb_in (List.mem_append_right _ (List.mem_append_right _ (List.mem_append_right _ (List.mem_append_left _ (List.mem_of_getElem? (i := 2) rfl : _ ∈ tables_1_3))))) rfl
set_option maxRecDepth 20000 in
theorem wc_Sto_allPlaces : Cond.code y_Sto_allPlaces.2.1 y_Sto_allPlaces.2.2.1 y_Sto_allPlaces.2.2.2.1 y_Sto_allPlaces.2.2.2.2 ∈ kv_tb := kv_tb_in (List.mem_append_right _ (List.mem_append_right _ (List.mem_append_right _ (List.mem_append_left _ (List.mem_of_getElem? (i := 7) rfl : _ ∈ tables_1_3))))) rfl
set_option maxRecDepth 20000 in
theorem wc_Row_pairsOfOneKey : Cond.code y_Row_pairsOfOneKey.2.1 y_Row_pairsOfOneKey.2.2.1 y_Row_pairsOfOneKey.2.2.2.1 y_Row_pairsOfOneKey.2.2.2.2 ∈ kv_tb := kv_tb_in (List.mem_append_right _ (List.mem_append_right _ (List.mem_append_right _ (List.mem_append_left _ (List.mem_of_getElem? (i := 11) rfl : _ ∈ tables_1_3))))) rfl
set_option maxRecDepth 20000 in
theorem wc_Row_chainLength : Cond.code y_Row_chainLength.2.1 y_Row_chainLength.2.2.1 y_Row_chainLength.2.2.2.1 y_Row_chainLength.2.2.2.2 ∈ kv_tb := kv_tb_in (List.mem_append_right _ (List.mem_append_right _ (List.mem_append_right _ (List.mem_append_left _ (List.mem_of_getElem? (i := 15) rfl : _ ∈ tables_1_3))))) rfl
set_option maxRecDepth 20000 in
theorem wc_Row_mostOfOneKey : Cond.code y_Row_mostOfOneKey.2.1 y_Row_mostOfOneKey.2.2.1 y_Row_mostOfOneKey.2.2.2.1 y_Row_mostOfOneKey.2.2.2.2 ∈ kv_tb := kv_tb_in (List.mem_append_right _ (List.mem_append_right _ (List.mem_append_right _ (List.mem_append_left _ (List.mem_of_getElem? (i := 19) rfl : _ ∈ tables_1_3))))) rfl
set_option maxRecDepth 20000 in
theorem wc_Md_init : Cond.code y_Md_init.2.1 y_Md_init.2.2.1 y_Md_init.2.2.2.1 y_Md_init.2.2.2.2 ∈ kv_tb := kv_tb_in (List.mem_append_right _ (List.mem_append_right _ (List.mem_append_right _ (List.mem_append_left _ (List.mem_of_getElem? (i := 27) rfl : _ ∈ tables_1_3))))) rfl
set_option maxRecDepth 20000 in
theorem wc_Md_layTable : Cond.code y_Md_layTable.2.1 y_Md_layTable.2.2.1 y_Md_layTable.2.2.2.1 y_Md_layTable.2.2.2.2 ∈ kv_tb := kv_tb_in (List.mem_append_right _ (List.mem_append_right _ (List.mem_append_right _ (List.mem_append_left _ (List.mem_of_getElem? (i := 32) rfl : _ ∈ tables_1_3))))) rfl
set_option maxRecDepth 20000 in
theorem wc_Md_seed : Cond.code y_Md_seed.2.1 y_Md_seed.2.2.1 y_Md_seed.2.2.2.1 y_Md_seed.2.2.2.2 ∈ kv_tb := kv_tb_in (List.mem_append_right _ (List.mem_append_right _ (List.mem_append_right _ (List.mem_append_left _ (List.mem_of_getElem? (i := 112) rfl : _ ∈ tables_1_3))))) rfl
set_option maxRecDepth 20000 in
theorem wc_Md_rule : Cond.code y_Md_rule.2.1 y_Md_rule.2.2.1 y_Md_rule.2.2.2.1 y_Md_rule.2.2.2.2 ∈ kv_tb := kv_tb_in (List.mem_append_right _ (List.mem_append_right _ (List.mem_append_right _ (List.mem_append_left _ (List.mem_of_getElem? (i := 116) rfl : _ ∈ tables_1_3))))) rfl
set_option maxRecDepth 20000 in
theorem wc_Md_in : Cond.code y_Md_in.2.1 y_Md_in.2.2.1 y_Md_in.2.2.2.1 y_Md_in.2.2.2.2 ∈ kv_tb := kv_tb_in (List.mem_append_right _ (List.mem_append_right _ (List.mem_append_right _ (List.mem_append_left _ (List.mem_of_getElem? (i := 119) rfl : _ ∈ tables_1_3))))) rfl
set_option maxRecDepth 20000 in
theorem wc_Md_add : Cond.code y_Md_add.2.1 y_Md_add.2.2.1 y_Md_add.2.2.2.1 y_Md_add.2.2.2.2 ∈ kv_tb := kv_tb_in (List.mem_append_right _ (List.mem_append_right _ (List.mem_append_right _ (List.mem_append_left _ (List.mem_of_getElem? (i := 123) rfl : _ ∈ tables_1_3))))) rfl
set_option maxRecDepth 20000 in
theorem wc_Md_isText : Cond.code y_Md_isText.2.1 y_Md_isText.2.2.1 y_Md_isText.2.2.2.1 y_Md_isText.2.2.2.2 ∈ kv_tb := kv_tb_in (List.mem_append_right _ (List.mem_append_right _ (List.mem_append_right _ (List.mem_append_left _ (List.mem_of_getElem? (i := 126) rfl : _ ∈ tables_1_3))))) rfl
set_option maxRecDepth 20000 in
theorem wc_Md_insertAt : Cond.code y_Md_insertAt.2.1 y_Md_insertAt.2.2.1 y_Md_insertAt.2.2.2.1 y_Md_insertAt.2.2.2.2 ∈ kv_tb := kv_tb_in (List.mem_append_right _ (List.mem_append_right _ (List.mem_append_right _ (List.mem_append_left _ (List.mem_of_getElem? (i := 130) rfl : _ ∈ tables_1_3))))) rfl
set_option maxRecDepth 20000 in
theorem wc_Md_fill : Cond.code y_Md_fill.2.1 y_Md_fill.2.2.1 y_Md_fill.2.2.2.1 y_Md_fill.2.2.2.2 ∈ kv_tb := kv_tb_in (List.mem_append_right _ (List.mem_append_right _ (List.mem_append_right _ (List.mem_append_left _ (List.mem_of_getElem? (i := 134) rfl : _ ∈ tables_1_3))))) rfl
set_option maxRecDepth 20000 in
theorem wc_Md_insert : Cond.code y_Md_insert.2.1 y_Md_insert.2.2.1 y_Md_insert.2.2.2.1 y_Md_insert.2.2.2.2 ∈ kv_tb := kv_tb_in (List.mem_append_right _ (List.mem_append_right _ (List.mem_append_right _ (List.mem_append_left _ (List.mem_of_getElem? (i := 139) rfl : _ ∈ tables_1_3))))) rfl
set_option maxRecDepth 20000 in
theorem wc_Md_remove : Cond.code y_Md_remove.2.1 y_Md_remove.2.2.1 y_Md_remove.2.2.2.1 y_Md_remove.2.2.2.2 ∈ kv_tb := kv_tb_in (List.mem_append_right _ (List.mem_append_right _ (List.mem_append_right _ (List.mem_append_left _ (List.mem_of_getElem? (i := 143) rfl : _ ∈ tables_1_3))))) rfl
set_option maxRecDepth 20000 in
theorem wc_Md_copy : Cond.code y_Md_copy.2.1 y_Md_copy.2.2.1 y_Md_copy.2.2.2.1 y_Md_copy.2.2.2.2 ∈ kv_tb := kv_tb_in (List.mem_append_right _ (List.mem_append_right _ (List.mem_append_right _ (List.mem_append_left _ (List.mem_of_getElem? (i := 147) rfl : _ ∈ tables_1_3))))) rfl
set_option maxRecDepth 20000 in
theorem wc_Md_size : Cond.code y_Md_size.2.1 y_Md_size.2.2.1 y_Md_size.2.2.2.1 y_Md_size.2.2.2.2 ∈ kv_tb := kv_tb_in (List.mem_append_right _ (List.mem_append_right _ (List.mem_append_right _ (List.mem_append_left _ (List.mem_of_getElem? (i := 151) rfl : _ ∈ tables_1_3))))) rfl
set_option maxRecDepth 20000 in
theorem wc_Md_byteAt : Cond.code y_Md_byteAt.2.1 y_Md_byteAt.2.2.1 y_Md_byteAt.2.2.2.1 y_Md_byteAt.2.2.2.2 ∈ kv_tb := kv_tb_in (List.mem_append_right _ (List.mem_append_right _ (List.mem_append_right _ (List.mem_append_left _ (List.mem_of_getElem? (i := 155) rfl : _ ∈ tables_1_3))))) rfl
set_option maxRecDepth 20000 in
theorem wc_Md_blocks : Cond.code y_Md_blocks.2.1 y_Md_blocks.2.2.1 y_Md_blocks.2.2.2.1 y_Md_blocks.2.2.2.2 ∈ kv_tb := kv_tb_in (List.mem_append_right _ (List.mem_append_right _ (List.mem_append_right _ (List.mem_append_left _ (List.mem_of_getElem? (i := 159) rfl : _ ∈ tables_1_3))))) rfl
set_option maxRecDepth 20000 in
theorem wc_Md_layCuts : Cond.code y_Md_layCuts.2.1 y_Md_layCuts.2.2.1 y_Md_layCuts.2.2.2.1 y_Md_layCuts.2.2.2.2 ∈ kv_tb := kv_tb_in (List.mem_append_right _ (List.mem_append_right _ (List.mem_append_right _ (List.mem_append_left _ (List.mem_of_getElem? (i := 163) rfl : _ ∈ tables_1_3))))) rfl
set_option maxRecDepth 20000 in
theorem wc_Md_longFrom : Cond.code y_Md_longFrom.2.1 y_Md_longFrom.2.2.1 y_Md_longFrom.2.2.2.1 y_Md_longFrom.2.2.2.2 ∈ kv_tb := kv_tb_in (List.mem_append_right _ (List.mem_append_right _ (List.mem_append_right _ (List.mem_append_left _ (List.mem_of_getElem? (i := 167) rfl : _ ∈ tables_1_3))))) rfl
set_option maxRecDepth 20000 in
theorem wc_Md_next : Cond.code y_Md_next.2.1 y_Md_next.2.2.1 y_Md_next.2.2.2.1 y_Md_next.2.2.2.2 ∈ kv_tb := kv_tb_in (List.mem_append_right _ (List.mem_append_right _ (List.mem_append_right _ (List.mem_append_left _ (List.mem_of_getElem? (i := 171) rfl : _ ∈ tables_1_3))))) rfl
set_option maxRecDepth 20000 in
theorem wc_Md_turn : Cond.code y_Md_turn.2.1 y_Md_turn.2.2.1 y_Md_turn.2.2.2.1 y_Md_turn.2.2.2.2 ∈ kv_tb := kv_tb_in (List.mem_append_right _ (List.mem_append_right _ (List.mem_append_right _ (List.mem_append_left _ (List.mem_of_getElem? (i := 174) rfl : _ ∈ tables_1_3))))) rfl
set_option maxRecDepth 20000 in
theorem wc_Md_isMarked : Cond.code y_Md_isMarked.2.1 y_Md_isMarked.2.2.1 y_Md_isMarked.2.2.2.1 y_Md_isMarked.2.2.2.2 ∈ kv_tb := kv_tb_in (List.mem_append_right _ (List.mem_append_right _ (List.mem_append_right _ (List.mem_append_left _ (List.mem_of_getElem? (i := 177) rfl : _ ∈ tables_1_3))))) rfl
set_option maxRecDepth 20000 in
theorem wc_Md_block : Cond.code y_Md_block.2.1 y_Md_block.2.2.1 y_Md_block.2.2.2.1 y_Md_block.2.2.2.2 ∈ kv_tb := kv_tb_in (List.mem_append_right _ (List.mem_append_right _ (List.mem_append_right _ (List.mem_append_left _ (List.mem_of_getElem? (i := 181) rfl : _ ∈ tables_1_3))))) rfl
set_option maxRecDepth 20000 in
theorem wc_Md_isBlock : Cond.code y_Md_isBlock.2.1 y_Md_isBlock.2.2.1 y_Md_isBlock.2.2.2.1 y_Md_isBlock.2.2.2.2 ∈ kv_tb := kv_tb_in (List.mem_append_right _ (List.mem_append_right _ (List.mem_append_right _ (List.mem_append_left _ (List.mem_of_getElem? (i := 185) rfl : _ ∈ tables_1_3))))) rfl
set_option maxRecDepth 20000 in
theorem wc_Md_digest : Cond.code y_Md_digest.2.1 y_Md_digest.2.2.1 y_Md_digest.2.2.2.1 y_Md_digest.2.2.2.2 ∈ kv_tb := kv_tb_in (List.mem_append_right _ (List.mem_append_right _ (List.mem_append_right _ (List.mem_append_left _ (List.mem_of_getElem? (i := 189) rfl : _ ∈ tables_1_3))))) rfl
set_option maxRecDepth 20000 in
theorem wc_Md_digestOf : Cond.code y_Md_digestOf.2.1 y_Md_digestOf.2.2.1 y_Md_digestOf.2.2.2.1 y_Md_digestOf.2.2.2.2 ∈ kv_tb := kv_tb_in (List.mem_append_right _ (List.mem_append_right _ (List.mem_append_right _ (List.mem_append_left _ (List.mem_of_getElem? (i := 193) rfl : _ ∈ tables_1_3))))) rfl
set_option maxRecDepth 20000 in
theorem wc_Md_hash : Cond.code y_Md_hash.2.1 y_Md_hash.2.2.1 y_Md_hash.2.2.2.1 y_Md_hash.2.2.2.2 ∈ kv_tb := kv_tb_in (List.mem_append_right _ (List.mem_append_right _ (List.mem_append_right _ (List.mem_append_left _ (List.mem_of_getElem? (i := 202) rfl : _ ∈ tables_1_3))))) rfl
set_option maxRecDepth 20000 in
theorem wc_Md_alike : Cond.code y_Md_alike.2.1 y_Md_alike.2.2.1 y_Md_alike.2.2.2.1 y_Md_alike.2.2.2.2 ∈ kv_tb := kv_tb_in (List.mem_append_right _ (List.mem_append_right _ (List.mem_append_right _ (List.mem_append_left _ (List.mem_of_getElem? (i := 206) rfl : _ ∈ tables_1_3))))) rfl
set_option maxRecDepth 20000 in
theorem wc_Md_isLike : Cond.code y_Md_isLike.2.1 y_Md_isLike.2.2.1 y_Md_isLike.2.2.2.1 y_Md_isLike.2.2.2.2 ∈ kv_tb := kv_tb_in (List.mem_append_right _ (List.mem_append_right _ (List.mem_append_right _ (List.mem_append_left _ (List.mem_of_getElem? (i := 210) rfl : _ ∈ tables_1_3))))) rfl
set_option maxRecDepth 20000 in
theorem wc_Md_isSame : Cond.code y_Md_isSame.2.1 y_Md_isSame.2.2.1 y_Md_isSame.2.2.2.1 y_Md_isSame.2.2.2.2 ∈ kv_tb := kv_tb_in (List.mem_append_right _ (List.mem_append_right _ (List.mem_append_right _ (List.mem_append_left _ (List.mem_of_getElem? (i := 213) rfl : _ ∈ tables_1_3))))) rfl
set_option maxRecDepth 20000 in
theorem wc_Md_keep : Cond.code y_Md_keep.2.1 y_Md_keep.2.2.1 y_Md_keep.2.2.2.1 y_Md_keep.2.2.2.2 ∈ kv_tb := kv_tb_in (List.mem_append_right _ (List.mem_append_right _ (List.mem_append_right _ (List.mem_append_left _ (List.mem_of_getElem? (i := 217) rfl : _ ∈ tables_1_3))))) rfl
set_option maxRecDepth 20000 in
theorem wc_Md_find : Cond.code y_Md_find.2.1 y_Md_find.2.2.1 y_Md_find.2.2.2.1 y_Md_find.2.2.2.2 ∈ kv_tb := kv_tb_in (List.mem_append_right _ (List.mem_append_right _ (List.mem_append_right _ (List.mem_append_left _ (List.mem_of_getElem? (i := 221) rfl : _ ∈ tables_1_3))))) rfl
set_option maxRecDepth 20000 in
theorem wc_Md_giveUp : Cond.code y_Md_giveUp.2.1 y_Md_giveUp.2.2.1 y_Md_giveUp.2.2.2.1 y_Md_giveUp.2.2.2.2 ∈ kv_tb := kv_tb_in (List.mem_append_right _ (List.mem_append_right _ (List.mem_append_right _ (List.mem_append_left _ (List.mem_of_getElem? (i := 225) rfl : _ ∈ tables_1_3))))) rfl
set_option maxRecDepth 20000 in
theorem wc_Md_drop : Cond.code y_Md_drop.2.1 y_Md_drop.2.2.1 y_Md_drop.2.2.2.1 y_Md_drop.2.2.2.2 ∈ kv_tb := kv_tb_in (List.mem_append_right _ (List.mem_append_right _ (List.mem_append_right _ (List.mem_append_left _ (List.mem_of_getElem? (i := 229) rfl : _ ∈ tables_1_3))))) rfl
set_option maxRecDepth 20000 in
theorem wc_Md_isSnapshot : Cond.code y_Md_isSnapshot.2.1 y_Md_isSnapshot.2.2.1 y_Md_isSnapshot.2.2.2.1 y_Md_isSnapshot.2.2.2.2 ∈ kv_tb := kv_tb_in (List.mem_append_right _ (List.mem_append_right _ (List.mem_append_right _ (List.mem_append_left _ (List.mem_of_getElem? (i := 233) rfl : _ ∈ tables_1_3))))) rfl
set_option maxRecDepth 20000 in
theorem wc_Md_takeOut : Cond.code y_Md_takeOut.2.1 y_Md_takeOut.2.2.1 y_Md_takeOut.2.2.2.1 y_Md_takeOut.2.2.2.2 ∈ kv_tb := kv_tb_in (List.mem_append_right _ (List.mem_append_right _ (List.mem_append_right _ (List.mem_append_left _ (List.mem_of_getElem? (i := 237) rfl : _ ∈ tables_1_3))))) rfl
set_option maxRecDepth 20000 in
theorem wc_Md_restore : Cond.code y_Md_restore.2.1 y_Md_restore.2.2.1 y_Md_restore.2.2.2.1 y_Md_restore.2.2.2.2 ∈ kv_tb := kv_tb_in (List.mem_append_right _ (List.mem_append_right _ (List.mem_append_right _ (List.mem_append_right _ (List.mem_of_getElem? (i := 1) rfl : _ ∈ tables_1_4))))) rfl
set_option maxRecDepth 20000 in
theorem wc_Md_told : Cond.code y_Md_told.2.1 y_Md_told.2.2.1 y_Md_told.2.2.2.1 y_Md_told.2.2.2.2 ∈ kv_tb := kv_tb_in (List.mem_append_right _ (List.mem_append_right _ (List.mem_append_right _ (List.mem_append_right _ (List.mem_of_getElem? (i := 5) rfl : _ ∈ tables_1_4))))) rfl
set_option maxRecDepth 20000 in
theorem wc_Md_bytesOf : Cond.code y_Md_bytesOf.2.1 y_Md_bytesOf.2.2.1 y_Md_bytesOf.2.2.2.1 y_Md_bytesOf.2.2.2.2 ∈ kv_tb := kv_tb_in (List.mem_append_right _ (List.mem_append_right _ (List.mem_append_right _ (List.mem_append_right _ (List.mem_of_getElem? (i := 9) rfl : _ ∈ tables_1_4))))) rfl
set_option maxRecDepth 20000 in
theorem wc_Md_uses : Cond.code y_Md_uses.2.1 y_Md_uses.2.2.1 y_Md_uses.2.2.2.1 y_Md_uses.2.2.2.2 ∈ kv_tb := kv_tb_in (List.mem_append_right _ (List.mem_append_right _ (List.mem_append_right _ (List.mem_append_right _ (List.mem_of_getElem? (i := 13) rfl : _ ∈ tables_1_4))))) rfl
set_option maxRecDepth 20000 in
theorem wc_Md_kept : Cond.code y_Md_kept.2.1 y_Md_kept.2.2.1 y_Md_kept.2.2.2.1 y_Md_kept.2.2.2.2 ∈ kv_tb := kv_tb_in (List.mem_append_right _ (List.mem_append_right _ (List.mem_append_right _ (List.mem_append_right _ (List.mem_of_getElem? (i := 17) rfl : _ ∈ tables_1_4))))) rfl
set_option maxRecDepth 20000 in
theorem wc_Md_keysTold : Cond.code y_Md_keysTold.2.1 y_Md_keysTold.2.2.1 y_Md_keysTold.2.2.2.1 y_Md_keysTold.2.2.2.2 ∈ kv_tb := kv_tb_in (List.mem_append_right _ (List.mem_append_right _ (List.mem_append_right _ (List.mem_append_right _ (List.mem_of_getElem? (i := 21) rfl : _ ∈ tables_1_4))))) rfl
set_option maxRecDepth 20000 in
theorem wc_Md_keyOf : Cond.code y_Md_keyOf.2.1 y_Md_keyOf.2.2.1 y_Md_keyOf.2.2.2.1 y_Md_keyOf.2.2.2.2 ∈ kv_tb := kv_tb_in (List.mem_append_right _ (List.mem_append_right _ (List.mem_append_right _ (List.mem_append_right _ (List.mem_of_getElem? (i := 25) rfl : _ ∈ tables_1_4))))) rfl
theorem wi_CutBlocks : Cond.initialized "CutBlocks" ∈ kv_tb := kv_tb_in (List.mem_of_getElem? (i := 29) (by decide +kernel)) rfl
theorem wi_CutBlocks_Row : Cond.initialized "CutBlocks$Row" ∈ kv_tb := kv_tb_in (List.mem_of_getElem? (i := 32) (by decide +kernel)) rfl
theorem wi_CutBlocks_Rules : Cond.initialized "CutBlocks$Rules" ∈ kv_tb := kv_tb_in (List.mem_of_getElem? (i := 30) (by decide +kernel)) rfl
theorem wi_CutBlocks_Snapshot : Cond.initialized "CutBlocks$Snapshot" ∈ kv_tb := kv_tb_in (List.mem_of_getElem? (i := 35) (by decide +kernel)) rfl
theorem wi_CutBlocks_Store : Cond.initialized "CutBlocks$Store" ∈ kv_tb := kv_tb_in (List.mem_of_getElem? (i := 34) (by decide +kernel)) rfl
theorem wi_CutBlocks_Text : Cond.initialized "CutBlocks$Text" ∈ kv_tb := kv_tb_in (List.mem_of_getElem? (i := 31) (by decide +kernel)) rfl
theorem wi_CutBlocksLaw : Cond.initialized "CutBlocksLaw" ∈ kv_tb := kv_tb_in (List.mem_of_getElem? (i := 28) (by decide +kernel)) rfl
theorem wi_CutBlocksModel : Cond.initialized "CutBlocksModel" ∈ kv_tb := kv_tb_in (List.mem_of_getElem? (i := 36) (by decide +kernel)) rfl
theorem wi_java_lang_Math : Cond.initialized "java/lang/Math" ∈ kv_tb := kv_tb_in (List.mem_of_getElem? (i := 38) (by decide +kernel)) rfl
theorem wi_java_lang_System : Cond.initialized "java/lang/System" ∈ kv_tb := kv_tb_in (List.mem_of_getElem? (i := 37) (by decide +kernel)) rfl
theorem wi_java_util_Arrays : Cond.initialized "java/util/Arrays" ∈ kv_tb := kv_tb_in (List.mem_of_getElem? (i := 33) (by decide +kernel)) rfl
theorem lb_Cb_init : kv_LB y_Cb_init 0 := ⟨wc_Cb_init, wi_CutBlocks, ⟨by decide, by decide⟩, by decide +kernel, by decide⟩
theorem win_Cb_init : Cond.instanceMethod y_Cb_init.2.1 ∈ kv_tb := kv_tb_in (List.mem_of_getElem? (i := 42) (by decide +kernel)) rfl
theorem lb_Rul_init : kv_LB y_Rul_init 0 := ⟨wc_Rul_init, wi_CutBlocks_Rules, ⟨by decide, by decide⟩, by decide +kernel, by decide⟩
theorem win_Rul_init : Cond.instanceMethod y_Rul_init.2.1 ∈ kv_tb := kv_tb_in (List.mem_of_getElem? (i := 50) (by decide +kernel)) rfl
theorem lb_Rul_sow : kv_LB y_Rul_sow 1 := ⟨wc_Rul_sow, wi_CutBlocks_Rules, ⟨by decide, by decide⟩, by decide +kernel, by decide⟩
theorem win_Rul_sow : Cond.instanceMethod y_Rul_sow.2.1 ∈ kv_tb := kv_tb_in (List.mem_of_getElem? (i := 54) (by decide +kernel)) rfl
theorem wl_Rul_sow : Cond.selects "CutBlocks$Rules" y_Rul_sow.2.1 y_Rul_sow.2.1 ∈ kv_tb := kv_tb_in (List.mem_of_getElem? (i := 55) (by decide +kernel)) rfl
theorem lb_Rul_take : kv_LB y_Rul_take 6 := ⟨wc_Rul_take, wi_CutBlocks_Rules, ⟨by decide, by decide⟩, by decide +kernel, by decide⟩
theorem win_Rul_take : Cond.instanceMethod y_Rul_take.2.1 ∈ kv_tb := kv_tb_in (List.mem_of_getElem? (i := 60) (by decide +kernel)) rfl
theorem wl_Rul_take : Cond.selects "CutBlocks$Rules" y_Rul_take.2.1 y_Rul_take.2.1 ∈ kv_tb := kv_tb_in (List.mem_of_getElem? (i := 61) (by decide +kernel)) rfl
theorem lb_Txt_init : kv_LB y_Txt_init 0 := ⟨wc_Txt_init, wi_CutBlocks_Text, ⟨by decide, by decide⟩, by decide +kernel, by decide⟩
theorem win_Txt_init : Cond.instanceMethod y_Txt_init.2.1 ∈ kv_tb := kv_tb_in (List.mem_of_getElem? (i := 90) (by decide +kernel)) rfl
theorem lb_Row_init : kv_LB y_Row_init 2 := ⟨wc_Row_init, wi_CutBlocks_Row, ⟨by decide, by decide⟩, by decide +kernel, by decide⟩
theorem win_Row_init : Cond.instanceMethod y_Row_init.2.1 ∈ kv_tb := kv_tb_in (List.mem_of_getElem? (i := 96) (by decide +kernel)) rfl
theorem lb_Row_unchain : kv_LB y_Row_unchain 0 := ⟨wc_Row_unchain, wi_CutBlocks_Row, ⟨by decide, by decide⟩, by decide +kernel, by decide⟩
theorem win_Row_unchain : Cond.instanceMethod y_Row_unchain.2.1 ∈ kv_tb := kv_tb_in (List.mem_of_getElem? (i := 100) (by decide +kernel)) rfl
theorem wl_Row_unchain : Cond.selects "CutBlocks$Row" y_Row_unchain.2.1 y_Row_unchain.2.1 ∈ kv_tb := kv_tb_in (List.mem_of_getElem? (i := 101) (by decide +kernel)) rfl
theorem lb_Arr_fill : kv_LB y_Arr_fill 2 := ⟨wc_Arr_fill, wi_java_util_Arrays, ⟨by decide, by decide⟩, by decide +kernel, by decide⟩
theorem wst_Arr_fill : Cond.static y_Arr_fill.2.1 ∈ kv_tb := kv_tb_in (List.mem_of_getElem? (i := 104) (by decide +kernel)) rfl
theorem lb_Sto_init : kv_LB y_Sto_init 0 := ⟨wc_Sto_init, wi_CutBlocks_Store, ⟨by decide, by decide⟩, by decide +kernel, by decide⟩
theorem win_Sto_init : Cond.instanceMethod y_Sto_init.2.1 ∈ kv_tb := kv_tb_in (List.mem_of_getElem? (i := 152) (by decide +kernel)) rfl
theorem lb_Snp_init : kv_LB y_Snp_init 0 := ⟨wc_Snp_init, wi_CutBlocks_Snapshot, ⟨by decide, by decide⟩, by decide +kernel, by decide⟩
theorem win_Snp_init : Cond.instanceMethod y_Snp_init.2.1 ∈ kv_tb := kv_tb_in (List.mem_of_getElem? (i := 161) (by decide +kernel)) rfl
theorem lb_Cb_seed : kv_LB y_Cb_seed 1 := ⟨wc_Cb_seed, wi_CutBlocks, ⟨by decide, by decide⟩, by decide +kernel, by decide⟩
theorem win_Cb_seed : Cond.instanceMethod y_Cb_seed.2.1 ∈ kv_tb := kv_tb_in (List.mem_of_getElem? (i := 206) (by decide +kernel)) rfl
theorem wl_Cb_seed : Cond.selects "CutBlocks" y_Cb_seed.2.1 y_Cb_seed.2.1 ∈ kv_tb := kv_tb_in (List.mem_of_getElem? (i := 207) (by decide +kernel)) rfl
theorem lb_Cb_forgetAllCuts : kv_LB y_Cb_forgetAllCuts 0 := ⟨wc_Cb_forgetAllCuts, wi_CutBlocks, ⟨by decide, by decide⟩, by decide +kernel, by decide⟩
theorem win_Cb_forgetAllCuts : Cond.instanceMethod y_Cb_forgetAllCuts.2.1 ∈ kv_tb := kv_tb_in (List.mem_of_getElem? (i := 212) (by decide +kernel)) rfl
theorem wl_Cb_forgetAllCuts : Cond.selects "CutBlocks" y_Cb_forgetAllCuts.2.1 y_Cb_forgetAllCuts.2.1 ∈ kv_tb := kv_tb_in (List.mem_of_getElem? (i := 0) (by decide +kernel)) rfl
theorem lb_Txt_forgetCuts : kv_LB y_Txt_forgetCuts 0 := ⟨wc_Txt_forgetCuts, wi_CutBlocks_Text, ⟨by decide, by decide⟩, by decide +kernel, by decide⟩
theorem win_Txt_forgetCuts : Cond.instanceMethod y_Txt_forgetCuts.2.1 ∈ kv_tb := kv_tb_in (List.mem_of_getElem? (i := 215) (by decide +kernel)) rfl
theorem wl_Txt_forgetCuts : Cond.selects "CutBlocks$Text" y_Txt_forgetCuts.2.1 y_Txt_forgetCuts.2.1 ∈ kv_tb := kv_tb_in (List.mem_of_getElem? (i := 216) (by decide +kernel)) rfl
theorem lb_Cb_rule : kv_LB y_Cb_rule 6 := ⟨wc_Cb_rule, wi_CutBlocks, ⟨by decide, by decide⟩, by decide +kernel, by decide⟩
theorem win_Cb_rule : Cond.instanceMethod y_Cb_rule.2.1 ∈ kv_tb := kv_tb_in (List.mem_of_getElem? (i := 219) (by decide +kernel)) rfl
theorem wl_Cb_rule : Cond.selects "CutBlocks" y_Cb_rule.2.1 y_Cb_rule.2.1 ∈ kv_tb := kv_tb_in (List.mem_of_getElem? (i := 220) (by decide +kernel)) rfl
theorem lb_Rul_fit : kv_LB y_Rul_fit 6 := ⟨wc_Rul_fit, wi_CutBlocks_Rules, ⟨by decide, by decide⟩, by decide +kernel, by decide⟩
theorem wst_Rul_fit : Cond.static y_Rul_fit.2.1 ∈ kv_tb := kv_tb_in (List.mem_of_getElem? (i := 223) (by decide +kernel)) rfl
theorem lb_Cb_add : kv_LB y_Cb_add 2 := ⟨wc_Cb_add, wi_CutBlocks, ⟨by decide, by decide⟩, by decide +kernel, by decide⟩
theorem win_Cb_add : Cond.instanceMethod y_Cb_add.2.1 ∈ kv_tb := kv_tb_in (List.mem_of_getElem? (i := 227) (by decide +kernel)) rfl
theorem wl_Cb_add : Cond.selects "CutBlocks" y_Cb_add.2.1 y_Cb_add.2.1 ∈ kv_tb := kv_tb_in (List.mem_of_getElem? (i := 228) (by decide +kernel)) rfl
theorem lb_Cb_isText : kv_LB y_Cb_isText 1 := ⟨wc_Cb_isText, wi_CutBlocks, ⟨by decide, by decide⟩, by decide +kernel, by decide⟩
theorem wst_Cb_isText : Cond.static y_Cb_isText.2.1 ∈ kv_tb := kv_tb_in (List.mem_of_getElem? (i := 231) (by decide +kernel)) rfl
theorem lb_Cb_isByte : kv_LB y_Cb_isByte 1 := ⟨wc_Cb_isByte, wi_CutBlocks, ⟨by decide, by decide⟩, by decide +kernel, by decide⟩
theorem wst_Cb_isByte : Cond.static y_Cb_isByte.2.1 ∈ kv_tb := kv_tb_in (List.mem_of_getElem? (i := 234) (by decide +kernel)) rfl
theorem lb_Txt_put : kv_LB y_Txt_put 2 := ⟨wc_Txt_put, wi_CutBlocks_Text, ⟨by decide, by decide⟩, by decide +kernel, by decide⟩
theorem win_Txt_put : Cond.instanceMethod y_Txt_put.2.1 ∈ kv_tb := kv_tb_in (List.mem_of_getElem? (i := 237) (by decide +kernel)) rfl
theorem wl_Txt_put : Cond.selects "CutBlocks$Text" y_Txt_put.2.1 y_Txt_put.2.1 ∈ kv_tb := kv_tb_in (List.mem_of_getElem? (i := 238) (by decide +kernel)) rfl
theorem lb_Txt_changedTo : kv_LB y_Txt_changedTo 1 := ⟨wc_Txt_changedTo, wi_CutBlocks_Text, ⟨by decide, by decide⟩, by decide +kernel, by decide⟩
theorem win_Txt_changedTo : Cond.instanceMethod y_Txt_changedTo.2.1 ∈ kv_tb := kv_tb_in (List.mem_of_getElem? (i := 244) (by decide +kernel)) rfl
theorem wl_Txt_changedTo : Cond.selects "CutBlocks$Text" y_Txt_changedTo.2.1 y_Txt_changedTo.2.1 ∈ kv_tb := kv_tb_in (List.mem_of_getElem? (i := 245) (by decide +kernel)) rfl
theorem lb_Cb_fill : kv_LB y_Cb_fill 4 := ⟨wc_Cb_fill, wi_CutBlocks, ⟨by decide, by decide⟩, by decide +kernel, by decide⟩
theorem win_Cb_fill : Cond.instanceMethod y_Cb_fill.2.1 ∈ kv_tb := kv_tb_in (List.mem_of_getElem? (i := 249) (by decide +kernel)) rfl
theorem wl_Cb_fill : Cond.selects "CutBlocks" y_Cb_fill.2.1 y_Cb_fill.2.1 ∈ kv_tb := kv_tb_in (List.mem_of_getElem? (i := 250) (by decide +kernel)) rfl
theorem lb_Txt_sow : kv_LB y_Txt_sow 3 := ⟨wc_Txt_sow, wi_CutBlocks_Text, ⟨by decide, by decide⟩, by decide +kernel, by decide⟩
theorem win_Txt_sow : Cond.instanceMethod y_Txt_sow.2.1 ∈ kv_tb := kv_tb_in (List.mem_of_getElem? (i := 253) (by decide +kernel)) rfl
theorem wl_Txt_sow : Cond.selects "CutBlocks$Text" y_Txt_sow.2.1 y_Txt_sow.2.1 ∈ kv_tb := kv_tb_in (List.mem_of_getElem? (i := 254) (by decide +kernel)) rfl
theorem lb_Cb_insert : kv_LB y_Cb_insert 3 := ⟨wc_Cb_insert, wi_CutBlocks, ⟨by decide, by decide⟩, by decide +kernel, by decide⟩
theorem win_Cb_insert : Cond.instanceMethod y_Cb_insert.2.1 ∈ kv_tb := kv_tb_in (List.mem_of_getElem? (i := 258) (by decide +kernel)) rfl
theorem wl_Cb_insert : Cond.selects "CutBlocks" y_Cb_insert.2.1 y_Cb_insert.2.1 ∈ kv_tb := kv_tb_in (List.mem_of_getElem? (i := 259) (by decide +kernel)) rfl
theorem lb_Cb_remove : kv_LB y_Cb_remove 3 := ⟨wc_Cb_remove, wi_CutBlocks, ⟨by decide, by decide⟩, by decide +kernel, by decide⟩
theorem win_Cb_remove : Cond.instanceMethod y_Cb_remove.2.1 ∈ kv_tb := kv_tb_in (List.mem_of_getElem? (i := 262) (by decide +kernel)) rfl
theorem wl_Cb_remove : Cond.selects "CutBlocks" y_Cb_remove.2.1 y_Cb_remove.2.1 ∈ kv_tb := kv_tb_in (List.mem_of_getElem? (i := 263) (by decide +kernel)) rfl
theorem lb_Txt_take : kv_LB y_Txt_take 2 := ⟨wc_Txt_take, wi_CutBlocks_Text, ⟨by decide, by decide⟩, by decide +kernel, by decide⟩
theorem win_Txt_take : Cond.instanceMethod y_Txt_take.2.1 ∈ kv_tb := kv_tb_in (List.mem_of_getElem? (i := 266) (by decide +kernel)) rfl
theorem wl_Txt_take : Cond.selects "CutBlocks$Text" y_Txt_take.2.1 y_Txt_take.2.1 ∈ kv_tb := kv_tb_in (List.mem_of_getElem? (i := 267) (by decide +kernel)) rfl
theorem lb_Cb_copy : kv_LB y_Cb_copy 2 := ⟨wc_Cb_copy, wi_CutBlocks, ⟨by decide, by decide⟩, by decide +kernel, by decide⟩
theorem win_Cb_copy : Cond.instanceMethod y_Cb_copy.2.1 ∈ kv_tb := kv_tb_in (List.mem_of_getElem? (i := 270) (by decide +kernel)) rfl
theorem wl_Cb_copy : Cond.selects "CutBlocks" y_Cb_copy.2.1 y_Cb_copy.2.1 ∈ kv_tb := kv_tb_in (List.mem_of_getElem? (i := 271) (by decide +kernel)) rfl
theorem lb_Txt_become : kv_LB y_Txt_become 1 := ⟨wc_Txt_become, wi_CutBlocks_Text, ⟨by decide, by decide⟩, by decide +kernel, by decide⟩
theorem win_Txt_become : Cond.instanceMethod y_Txt_become.2.1 ∈ kv_tb := kv_tb_in (List.mem_of_getElem? (i := 274) (by decide +kernel)) rfl
theorem wl_Txt_become : Cond.selects "CutBlocks$Text" y_Txt_become.2.1 y_Txt_become.2.1 ∈ kv_tb := kv_tb_in (List.mem_of_getElem? (i := 275) (by decide +kernel)) rfl
theorem lb_Cb_size : kv_LB y_Cb_size 1 := ⟨wc_Cb_size, wi_CutBlocks, ⟨by decide, by decide⟩, by decide +kernel, by decide⟩
theorem win_Cb_size : Cond.instanceMethod y_Cb_size.2.1 ∈ kv_tb := kv_tb_in (List.mem_of_getElem? (i := 278) (by decide +kernel)) rfl
theorem wl_Cb_size : Cond.selects "CutBlocks" y_Cb_size.2.1 y_Cb_size.2.1 ∈ kv_tb := kv_tb_in (List.mem_of_getElem? (i := 279) (by decide +kernel)) rfl
theorem lb_Cb_byteAt : kv_LB y_Cb_byteAt 2 := ⟨wc_Cb_byteAt, wi_CutBlocks, ⟨by decide, by decide⟩, by decide +kernel, by decide⟩
theorem win_Cb_byteAt : Cond.instanceMethod y_Cb_byteAt.2.1 ∈ kv_tb := kv_tb_in (List.mem_of_getElem? (i := 282) (by decide +kernel)) rfl
theorem wl_Cb_byteAt : Cond.selects "CutBlocks" y_Cb_byteAt.2.1 y_Cb_byteAt.2.1 ∈ kv_tb := kv_tb_in (List.mem_of_getElem? (i := 283) (by decide +kernel)) rfl
theorem lb_Cb_hasByte : kv_LB y_Cb_hasByte 2 := ⟨wc_Cb_hasByte, wi_CutBlocks, ⟨by decide, by decide⟩, by decide +kernel, by decide⟩
theorem win_Cb_hasByte : Cond.instanceMethod y_Cb_hasByte.2.1 ∈ kv_tb := kv_tb_in (List.mem_of_getElem? (i := 287) (by decide +kernel)) rfl
theorem wl_Cb_hasByte : Cond.selects "CutBlocks" y_Cb_hasByte.2.1 y_Cb_hasByte.2.1 ∈ kv_tb := kv_tb_in (List.mem_of_getElem? (i := 1) (by decide +kernel)) rfl
theorem lb_Cb_blocks : kv_LB y_Cb_blocks 1 := ⟨wc_Cb_blocks, wi_CutBlocks, ⟨by decide, by decide⟩, by decide +kernel, by decide⟩
theorem win_Cb_blocks : Cond.instanceMethod y_Cb_blocks.2.1 ∈ kv_tb := kv_tb_in (List.mem_of_getElem? (i := 290) (by decide +kernel)) rfl
theorem wl_Cb_blocks : Cond.selects "CutBlocks" y_Cb_blocks.2.1 y_Cb_blocks.2.1 ∈ kv_tb := kv_tb_in (List.mem_of_getElem? (i := 291) (by decide +kernel)) rfl
theorem lb_Cb_cutRow : kv_LB y_Cb_cutRow 1 := ⟨wc_Cb_cutRow, wi_CutBlocks, ⟨by decide, by decide⟩, by decide +kernel, by decide⟩
theorem win_Cb_cutRow : Cond.instanceMethod y_Cb_cutRow.2.1 ∈ kv_tb := kv_tb_in (List.mem_of_getElem? (i := 295) (by decide +kernel)) rfl
theorem wl_Cb_cutRow : Cond.selects "CutBlocks" y_Cb_cutRow.2.1 y_Cb_cutRow.2.1 ∈ kv_tb := kv_tb_in (List.mem_of_getElem? (i := 2) (by decide +kernel)) rfl
theorem lb_Txt_cutBy : kv_LB y_Txt_cutBy 1 := ⟨wc_Txt_cutBy, wi_CutBlocks_Text, ⟨by decide, by decide⟩, by decide +kernel, by decide⟩
theorem win_Txt_cutBy : Cond.instanceMethod y_Txt_cutBy.2.1 ∈ kv_tb := kv_tb_in (List.mem_of_getElem? (i := 298) (by decide +kernel)) rfl
theorem wl_Txt_cutBy : Cond.selects "CutBlocks$Text" y_Txt_cutBy.2.1 y_Txt_cutBy.2.1 ∈ kv_tb := kv_tb_in (List.mem_of_getElem? (i := 299) (by decide +kernel)) rfl
theorem lb_Row_end : kv_LB y_Row_end 0 := ⟨wc_Row_end, wi_CutBlocks_Row, ⟨by decide, by decide⟩, by decide +kernel, by decide⟩
theorem win_Row_end : Cond.instanceMethod y_Row_end.2.1 ∈ kv_tb := kv_tb_in (List.mem_of_getElem? (i := 302) (by decide +kernel)) rfl
theorem wl_Row_end : Cond.selects "CutBlocks$Row" y_Row_end.2.1 y_Row_end.2.1 ∈ kv_tb := kv_tb_in (List.mem_of_getElem? (i := 303) (by decide +kernel)) rfl
theorem lb_Rul_endOfBlock : kv_LB y_Rul_endOfBlock 3 := ⟨wc_Rul_endOfBlock, wi_CutBlocks_Rules, ⟨by decide, by decide⟩, by decide +kernel, by decide⟩
theorem win_Rul_endOfBlock : Cond.instanceMethod y_Rul_endOfBlock.2.1 ∈ kv_tb := kv_tb_in (List.mem_of_getElem? (i := 306) (by decide +kernel)) rfl
theorem wl_Rul_endOfBlock : Cond.selects "CutBlocks$Rules" y_Rul_endOfBlock.2.1 y_Rul_endOfBlock.2.1 ∈ kv_tb := kv_tb_in (List.mem_of_getElem? (i := 307) (by decide +kernel)) rfl
theorem lb_Rul_numberWith : kv_LB y_Rul_numberWith 4 := ⟨wc_Rul_numberWith, wi_CutBlocks_Rules, ⟨by decide, by decide⟩, by decide +kernel, by decide⟩
theorem win_Rul_numberWith : Cond.instanceMethod y_Rul_numberWith.2.1 ∈ kv_tb := kv_tb_in (List.mem_of_getElem? (i := 311) (by decide +kernel)) rfl
theorem wl_Rul_numberWith : Cond.selects "CutBlocks$Rules" y_Rul_numberWith.2.1 y_Rul_numberWith.2.1 ∈ kv_tb := kv_tb_in (List.mem_of_getElem? (i := 3) (by decide +kernel)) rfl
theorem lb_Rul_turnedLeft : kv_LB y_Rul_turnedLeft 2 := ⟨wc_Rul_turnedLeft, wi_CutBlocks_Rules, ⟨by decide, by decide⟩, by decide +kernel, by decide⟩
theorem wst_Rul_turnedLeft : Cond.static y_Rul_turnedLeft.2.1 ∈ kv_tb := kv_tb_in (List.mem_of_getElem? (i := 314) (by decide +kernel)) rfl
theorem lb_Rul_allowed : kv_LB y_Rul_allowed 1 := ⟨wc_Rul_allowed, wi_CutBlocks_Rules, ⟨by decide, by decide⟩, by decide +kernel, by decide⟩
theorem win_Rul_allowed : Cond.instanceMethod y_Rul_allowed.2.1 ∈ kv_tb := kv_tb_in (List.mem_of_getElem? (i := 318) (by decide +kernel)) rfl
theorem wl_Rul_allowed : Cond.selects "CutBlocks$Rules" y_Rul_allowed.2.1 y_Rul_allowed.2.1 ∈ kv_tb := kv_tb_in (List.mem_of_getElem? (i := 4) (by decide +kernel)) rfl
theorem lb_Rul_marksAt : kv_LB y_Rul_marksAt 1 := ⟨wc_Rul_marksAt, wi_CutBlocks_Rules, ⟨by decide, by decide⟩, by decide +kernel, by decide⟩
theorem win_Rul_marksAt : Cond.instanceMethod y_Rul_marksAt.2.1 ∈ kv_tb := kv_tb_in (List.mem_of_getElem? (i := 322) (by decide +kernel)) rfl
theorem wl_Rul_marksAt : Cond.selects "CutBlocks$Rules" y_Rul_marksAt.2.1 y_Rul_marksAt.2.1 ∈ kv_tb := kv_tb_in (List.mem_of_getElem? (i := 5) (by decide +kernel)) rfl
theorem lb_Rul_marked : kv_LB y_Rul_marked 2 := ⟨wc_Rul_marked, wi_CutBlocks_Rules, ⟨by decide, by decide⟩, by decide +kernel, by decide⟩
theorem wst_Rul_marked : Cond.static y_Rul_marked.2.1 ∈ kv_tb := kv_tb_in (List.mem_of_getElem? (i := 325) (by decide +kernel)) rfl
theorem lb_Row_close : kv_LB y_Row_close 1 := ⟨wc_Row_close, wi_CutBlocks_Row, ⟨by decide, by decide⟩, by decide +kernel, by decide⟩
theorem win_Row_close : Cond.instanceMethod y_Row_close.2.1 ∈ kv_tb := kv_tb_in (List.mem_of_getElem? (i := 328) (by decide +kernel)) rfl
theorem wl_Row_close : Cond.selects "CutBlocks$Row" y_Row_close.2.1 y_Row_close.2.1 ∈ kv_tb := kv_tb_in (List.mem_of_getElem? (i := 329) (by decide +kernel)) rfl
theorem lb_Cb_block : kv_LB y_Cb_block 3 := ⟨wc_Cb_block, wi_CutBlocks, ⟨by decide, by decide⟩, by decide +kernel, by decide⟩
theorem win_Cb_block : Cond.instanceMethod y_Cb_block.2.1 ∈ kv_tb := kv_tb_in (List.mem_of_getElem? (i := 332) (by decide +kernel)) rfl
theorem wl_Cb_block : Cond.selects "CutBlocks" y_Cb_block.2.1 y_Cb_block.2.1 ∈ kv_tb := kv_tb_in (List.mem_of_getElem? (i := 333) (by decide +kernel)) rfl
theorem lb_Cb_hasBlock : kv_LB y_Cb_hasBlock 2 := ⟨wc_Cb_hasBlock, wi_CutBlocks, ⟨by decide, by decide⟩, by decide +kernel, by decide⟩
theorem win_Cb_hasBlock : Cond.instanceMethod y_Cb_hasBlock.2.1 ∈ kv_tb := kv_tb_in (List.mem_of_getElem? (i := 337) (by decide +kernel)) rfl
theorem wl_Cb_hasBlock : Cond.selects "CutBlocks" y_Cb_hasBlock.2.1 y_Cb_hasBlock.2.1 ∈ kv_tb := kv_tb_in (List.mem_of_getElem? (i := 6) (by decide +kernel)) rfl
theorem lb_Row_bytesOf : kv_LB y_Row_bytesOf 1 := ⟨wc_Row_bytesOf, wi_CutBlocks_Row, ⟨by decide, by decide⟩, by decide +kernel, by decide⟩
theorem win_Row_bytesOf : Cond.instanceMethod y_Row_bytesOf.2.1 ∈ kv_tb := kv_tb_in (List.mem_of_getElem? (i := 340) (by decide +kernel)) rfl
theorem wl_Row_bytesOf : Cond.selects "CutBlocks$Row" y_Row_bytesOf.2.1 y_Row_bytesOf.2.1 ∈ kv_tb := kv_tb_in (List.mem_of_getElem? (i := 341) (by decide +kernel)) rfl
theorem lb_Cb_digest : kv_LB y_Cb_digest 3 := ⟨wc_Cb_digest, wi_CutBlocks, ⟨by decide, by decide⟩, by decide +kernel, by decide⟩
theorem win_Cb_digest : Cond.instanceMethod y_Cb_digest.2.1 ∈ kv_tb := kv_tb_in (List.mem_of_getElem? (i := 344) (by decide +kernel)) rfl
theorem wl_Cb_digest : Cond.selects "CutBlocks" y_Cb_digest.2.1 y_Cb_digest.2.1 ∈ kv_tb := kv_tb_in (List.mem_of_getElem? (i := 345) (by decide +kernel)) rfl
theorem lb_Row_mixedSum : kv_LB y_Row_mixedSum 1 := ⟨wc_Row_mixedSum, wi_CutBlocks_Row, ⟨by decide, by decide⟩, by decide +kernel, by decide⟩
theorem win_Row_mixedSum : Cond.instanceMethod y_Row_mixedSum.2.1 ∈ kv_tb := kv_tb_in (List.mem_of_getElem? (i := 349) (by decide +kernel)) rfl
theorem wl_Row_mixedSum : Cond.selects "CutBlocks$Row" y_Row_mixedSum.2.1 y_Row_mixedSum.2.1 ∈ kv_tb := kv_tb_in (List.mem_of_getElem? (i := 350) (by decide +kernel)) rfl
theorem lb_Cb_unsigned : kv_LB y_Cb_unsigned 1 := ⟨wc_Cb_unsigned, wi_CutBlocks, ⟨by decide, by decide⟩, by decide +kernel, by decide⟩
theorem wst_Cb_unsigned : Cond.static y_Cb_unsigned.2.1 ∈ kv_tb := kv_tb_in (List.mem_of_getElem? (i := 355) (by decide +kernel)) rfl
theorem lb_Row_doubleSum : kv_LB y_Row_doubleSum 1 := ⟨wc_Row_doubleSum, wi_CutBlocks_Row, ⟨by decide, by decide⟩, by decide +kernel, by decide⟩
theorem win_Row_doubleSum : Cond.instanceMethod y_Row_doubleSum.2.1 ∈ kv_tb := kv_tb_in (List.mem_of_getElem? (i := 359) (by decide +kernel)) rfl
theorem wl_Row_doubleSum : Cond.selects "CutBlocks$Row" y_Row_doubleSum.2.1 y_Row_doubleSum.2.1 ∈ kv_tb := kv_tb_in (List.mem_of_getElem? (i := 360) (by decide +kernel)) rfl
theorem lb_Cb_hash : kv_LB y_Cb_hash 2 := ⟨wc_Cb_hash, wi_CutBlocks, ⟨by decide, by decide⟩, by decide +kernel, by decide⟩
theorem win_Cb_hash : Cond.instanceMethod y_Cb_hash.2.1 ∈ kv_tb := kv_tb_in (List.mem_of_getElem? (i := 365) (by decide +kernel)) rfl
theorem wl_Cb_hash : Cond.selects "CutBlocks" y_Cb_hash.2.1 y_Cb_hash.2.1 ∈ kv_tb := kv_tb_in (List.mem_of_getElem? (i := 366) (by decide +kernel)) rfl
theorem lb_Row_startOfBlockWith : kv_LB y_Row_startOfBlockWith 1 := ⟨wc_Row_startOfBlockWith, wi_CutBlocks_Row, ⟨by decide, by decide⟩, by decide +kernel, by decide⟩
theorem win_Row_startOfBlockWith : Cond.instanceMethod y_Row_startOfBlockWith.2.1 ∈ kv_tb := kv_tb_in (List.mem_of_getElem? (i := 369) (by decide +kernel)) rfl
theorem wl_Row_startOfBlockWith : Cond.selects "CutBlocks$Row" y_Row_startOfBlockWith.2.1 y_Row_startOfBlockWith.2.1 ∈ kv_tb := kv_tb_in (List.mem_of_getElem? (i := 370) (by decide +kernel)) rfl
theorem lb_Rul_numberAt : kv_LB y_Rul_numberAt 3 := ⟨wc_Rul_numberAt, wi_CutBlocks_Rules, ⟨by decide, by decide⟩, by decide +kernel, by decide⟩
theorem win_Rul_numberAt : Cond.instanceMethod y_Rul_numberAt.2.1 ∈ kv_tb := kv_tb_in (List.mem_of_getElem? (i := 373) (by decide +kernel)) rfl
theorem wl_Rul_numberAt : Cond.selects "CutBlocks$Rules" y_Rul_numberAt.2.1 y_Rul_numberAt.2.1 ∈ kv_tb := kv_tb_in (List.mem_of_getElem? (i := 374) (by decide +kernel)) rfl
theorem lb_Cb_alike : kv_LB y_Cb_alike 3 := ⟨wc_Cb_alike, wi_CutBlocks, ⟨by decide, by decide⟩, by decide +kernel, by decide⟩
theorem win_Cb_alike : Cond.instanceMethod y_Cb_alike.2.1 ∈ kv_tb := kv_tb_in (List.mem_of_getElem? (i := 377) (by decide +kernel)) rfl
theorem wl_Cb_alike : Cond.selects "CutBlocks" y_Cb_alike.2.1 y_Cb_alike.2.1 ∈ kv_tb := kv_tb_in (List.mem_of_getElem? (i := 378) (by decide +kernel)) rfl
theorem lb_Cb_indexedRow : kv_LB y_Cb_indexedRow 1 := ⟨wc_Cb_indexedRow, wi_CutBlocks, ⟨by decide, by decide⟩, by decide +kernel, by decide⟩
theorem win_Cb_indexedRow : Cond.instanceMethod y_Cb_indexedRow.2.1 ∈ kv_tb := kv_tb_in (List.mem_of_getElem? (i := 382) (by decide +kernel)) rfl
theorem wl_Cb_indexedRow : Cond.selects "CutBlocks" y_Cb_indexedRow.2.1 y_Cb_indexedRow.2.1 ∈ kv_tb := kv_tb_in (List.mem_of_getElem? (i := 7) (by decide +kernel)) rfl
theorem lb_Txt_indexBy : kv_LB y_Txt_indexBy 1 := ⟨wc_Txt_indexBy, wi_CutBlocks_Text, ⟨by decide, by decide⟩, by decide +kernel, by decide⟩
theorem win_Txt_indexBy : Cond.instanceMethod y_Txt_indexBy.2.1 ∈ kv_tb := kv_tb_in (List.mem_of_getElem? (i := 385) (by decide +kernel)) rfl
theorem wl_Txt_indexBy : Cond.selects "CutBlocks$Text" y_Txt_indexBy.2.1 y_Txt_indexBy.2.1 ∈ kv_tb := kv_tb_in (List.mem_of_getElem? (i := 386) (by decide +kernel)) rfl
theorem lb_Row_index : kv_LB y_Row_index 0 := ⟨wc_Row_index, wi_CutBlocks_Row, ⟨by decide, by decide⟩, by decide +kernel, by decide⟩
theorem win_Row_index : Cond.instanceMethod y_Row_index.2.1 ∈ kv_tb := kv_tb_in (List.mem_of_getElem? (i := 390) (by decide +kernel)) rfl
theorem wl_Row_index : Cond.selects "CutBlocks$Row" y_Row_index.2.1 y_Row_index.2.1 ∈ kv_tb := kv_tb_in (List.mem_of_getElem? (i := 391) (by decide +kernel)) rfl
theorem lb_Row_find : kv_LB y_Row_find 2 := ⟨wc_Row_find, wi_CutBlocks_Row, ⟨by decide, by decide⟩, by decide +kernel, by decide⟩
theorem win_Row_find : Cond.instanceMethod y_Row_find.2.1 ∈ kv_tb := kv_tb_in (List.mem_of_getElem? (i := 395) (by decide +kernel)) rfl
theorem wl_Row_find : Cond.selects "CutBlocks$Row" y_Row_find.2.1 y_Row_find.2.1 ∈ kv_tb := kv_tb_in (List.mem_of_getElem? (i := 396) (by decide +kernel)) rfl
theorem lb_Row_isLike : kv_LB y_Row_isLike 3 := ⟨wc_Row_isLike, wi_CutBlocks_Row, ⟨by decide, by decide⟩, by decide +kernel, by decide⟩
theorem win_Row_isLike : Cond.instanceMethod y_Row_isLike.2.1 ∈ kv_tb := kv_tb_in (List.mem_of_getElem? (i := 399) (by decide +kernel)) rfl
theorem wl_Row_isLike : Cond.selects "CutBlocks$Row" y_Row_isLike.2.1 y_Row_isLike.2.1 ∈ kv_tb := kv_tb_in (List.mem_of_getElem? (i := 400) (by decide +kernel)) rfl
theorem lb_Row_chain : kv_LB y_Row_chain 1 := ⟨wc_Row_chain, wi_CutBlocks_Row, ⟨by decide, by decide⟩, by decide +kernel, by decide⟩
theorem win_Row_chain : Cond.instanceMethod y_Row_chain.2.1 ∈ kv_tb := kv_tb_in (List.mem_of_getElem? (i := 404) (by decide +kernel)) rfl
theorem wl_Row_chain : Cond.selects "CutBlocks$Row" y_Row_chain.2.1 y_Row_chain.2.1 ∈ kv_tb := kv_tb_in (List.mem_of_getElem? (i := 405) (by decide +kernel)) rfl
theorem lb_Row_blocksIn : kv_LB y_Row_blocksIn 1 := ⟨wc_Row_blocksIn, wi_CutBlocks_Row, ⟨by decide, by decide⟩, by decide +kernel, by decide⟩
theorem win_Row_blocksIn : Cond.instanceMethod y_Row_blocksIn.2.1 ∈ kv_tb := kv_tb_in (List.mem_of_getElem? (i := 408) (by decide +kernel)) rfl
theorem wl_Row_blocksIn : Cond.selects "CutBlocks$Row" y_Row_blocksIn.2.1 y_Row_blocksIn.2.1 ∈ kv_tb := kv_tb_in (List.mem_of_getElem? (i := 409) (by decide +kernel)) rfl
theorem lb_Row_bytesIn : kv_LB y_Row_bytesIn 1 := ⟨wc_Row_bytesIn, wi_CutBlocks_Row, ⟨by decide, by decide⟩, by decide +kernel, by decide⟩
theorem win_Row_bytesIn : Cond.instanceMethod y_Row_bytesIn.2.1 ∈ kv_tb := kv_tb_in (List.mem_of_getElem? (i := 412) (by decide +kernel)) rfl
theorem wl_Row_bytesIn : Cond.selects "CutBlocks$Row" y_Row_bytesIn.2.1 y_Row_bytesIn.2.1 ∈ kv_tb := kv_tb_in (List.mem_of_getElem? (i := 413) (by decide +kernel)) rfl
theorem lb_Row_firstLike : kv_LB y_Row_firstLike 1 := ⟨wc_Row_firstLike, wi_CutBlocks_Row, ⟨by decide, by decide⟩, by decide +kernel, by decide⟩
theorem win_Row_firstLike : Cond.instanceMethod y_Row_firstLike.2.1 ∈ kv_tb := kv_tb_in (List.mem_of_getElem? (i := 416) (by decide +kernel)) rfl
theorem wl_Row_firstLike : Cond.selects "CutBlocks$Row" y_Row_firstLike.2.1 y_Row_firstLike.2.1 ∈ kv_tb := kv_tb_in (List.mem_of_getElem? (i := 417) (by decide +kernel)) rfl
theorem lb_Row_lastLike : kv_LB y_Row_lastLike 1 := ⟨wc_Row_lastLike, wi_CutBlocks_Row, ⟨by decide, by decide⟩, by decide +kernel, by decide⟩
theorem win_Row_lastLike : Cond.instanceMethod y_Row_lastLike.2.1 ∈ kv_tb := kv_tb_in (List.mem_of_getElem? (i := 423) (by decide +kernel)) rfl
theorem wl_Row_lastLike : Cond.selects "CutBlocks$Row" y_Row_lastLike.2.1 y_Row_lastLike.2.1 ∈ kv_tb := kv_tb_in (List.mem_of_getElem? (i := 424) (by decide +kernel)) rfl
theorem lb_Cb_keep : kv_LB y_Cb_keep 1 := ⟨wc_Cb_keep, wi_CutBlocks, ⟨by decide, by decide⟩, by decide +kernel, by decide⟩
theorem win_Cb_keep : Cond.instanceMethod y_Cb_keep.2.1 ∈ kv_tb := kv_tb_in (List.mem_of_getElem? (i := 427) (by decide +kernel)) rfl
theorem wl_Cb_keep : Cond.selects "CutBlocks" y_Cb_keep.2.1 y_Cb_keep.2.1 ∈ kv_tb := kv_tb_in (List.mem_of_getElem? (i := 428) (by decide +kernel)) rfl
theorem lb_Sto_takeIn : kv_LB y_Sto_takeIn 1 := ⟨wc_Sto_takeIn, wi_CutBlocks_Store, ⟨by decide, by decide⟩, by decide +kernel, by decide⟩
theorem win_Sto_takeIn : Cond.instanceMethod y_Sto_takeIn.2.1 ∈ kv_tb := kv_tb_in (List.mem_of_getElem? (i := 431) (by decide +kernel)) rfl
theorem wl_Sto_takeIn : Cond.selects "CutBlocks$Store" y_Sto_takeIn.2.1 y_Sto_takeIn.2.1 ∈ kv_tb := kv_tb_in (List.mem_of_getElem? (i := 432) (by decide +kernel)) rfl
theorem lb_Sto_leastFree : kv_LB y_Sto_leastFree 0 := ⟨wc_Sto_leastFree, wi_CutBlocks_Store, ⟨by decide, by decide⟩, by decide +kernel, by decide⟩
theorem win_Sto_leastFree : Cond.instanceMethod y_Sto_leastFree.2.1 ∈ kv_tb := kv_tb_in (List.mem_of_getElem? (i := 436) (by decide +kernel)) rfl
theorem wl_Sto_leastFree : Cond.selects "CutBlocks$Store" y_Sto_leastFree.2.1 y_Sto_leastFree.2.1 ∈ kv_tb := kv_tb_in (List.mem_of_getElem? (i := 8) (by decide +kernel)) rfl
theorem lb_Row_hasRoomFor : kv_LB y_Row_hasRoomFor 1 := ⟨wc_Row_hasRoomFor, wi_CutBlocks_Row, ⟨by decide, by decide⟩, by decide +kernel, by decide⟩
theorem win_Row_hasRoomFor : Cond.instanceMethod y_Row_hasRoomFor.2.1 ∈ kv_tb := kv_tb_in (List.mem_of_getElem? (i := 441) (by decide +kernel)) rfl
theorem wl_Row_hasRoomFor : Cond.selects "CutBlocks$Row" y_Row_hasRoomFor.2.1 y_Row_hasRoomFor.2.1 ∈ kv_tb := kv_tb_in (List.mem_of_getElem? (i := 442) (by decide +kernel)) rfl
theorem lb_Sto_sweep : kv_LB y_Sto_sweep 0 := ⟨wc_Sto_sweep, wi_CutBlocks_Store, ⟨by decide, by decide⟩, by decide +kernel, by decide⟩
theorem win_Sto_sweep : Cond.instanceMethod y_Sto_sweep.2.1 ∈ kv_tb := kv_tb_in (List.mem_of_getElem? (i := 447) (by decide +kernel)) rfl
theorem wl_Sto_sweep : Cond.selects "CutBlocks$Store" y_Sto_sweep.2.1 y_Sto_sweep.2.1 ∈ kv_tb := kv_tb_in (List.mem_of_getElem? (i := 9) (by decide +kernel)) rfl
theorem lb_Row_append : kv_LB y_Row_append 2 := ⟨wc_Row_append, wi_CutBlocks_Row, ⟨by decide, by decide⟩, by decide +kernel, by decide⟩
theorem win_Row_append : Cond.instanceMethod y_Row_append.2.1 ∈ kv_tb := kv_tb_in (List.mem_of_getElem? (i := 452) (by decide +kernel)) rfl
theorem wl_Row_append : Cond.selects "CutBlocks$Row" y_Row_append.2.1 y_Row_append.2.1 ∈ kv_tb := kv_tb_in (List.mem_of_getElem? (i := 453) (by decide +kernel)) rfl
theorem lb_Sto_renumber : kv_LB y_Sto_renumber 0 := ⟨wc_Sto_renumber, wi_CutBlocks_Store, ⟨by decide, by decide⟩, by decide +kernel, by decide⟩
theorem win_Sto_renumber : Cond.instanceMethod y_Sto_renumber.2.1 ∈ kv_tb := kv_tb_in (List.mem_of_getElem? (i := 459) (by decide +kernel)) rfl
theorem wl_Sto_renumber : Cond.selects "CutBlocks$Store" y_Sto_renumber.2.1 y_Sto_renumber.2.1 ∈ kv_tb := kv_tb_in (List.mem_of_getElem? (i := 10) (by decide +kernel)) rfl
theorem lb_Sto_takeInNew : kv_LB y_Sto_takeInNew 2 := ⟨wc_Sto_takeInNew, wi_CutBlocks_Store, ⟨by decide, by decide⟩, by decide +kernel, by decide⟩
theorem win_Sto_takeInNew : Cond.instanceMethod y_Sto_takeInNew.2.1 ∈ kv_tb := kv_tb_in (List.mem_of_getElem? (i := 463) (by decide +kernel)) rfl
theorem wl_Sto_takeInNew : Cond.selects "CutBlocks$Store" y_Sto_takeInNew.2.1 y_Sto_takeInNew.2.1 ∈ kv_tb := kv_tb_in (List.mem_of_getElem? (i := 11) (by decide +kernel)) rfl
theorem lb_Sto_countPlaces : kv_LB y_Sto_countPlaces 2 := ⟨wc_Sto_countPlaces, wi_CutBlocks_Store, ⟨by decide, by decide⟩, by decide +kernel, by decide⟩
theorem win_Sto_countPlaces : Cond.instanceMethod y_Sto_countPlaces.2.1 ∈ kv_tb := kv_tb_in (List.mem_of_getElem? (i := 467) (by decide +kernel)) rfl
theorem wl_Sto_countPlaces : Cond.selects "CutBlocks$Store" y_Sto_countPlaces.2.1 y_Sto_countPlaces.2.1 ∈ kv_tb := kv_tb_in (List.mem_of_getElem? (i := 12) (by decide +kernel)) rfl
theorem lb_Cb_drop : kv_LB y_Cb_drop 1 := ⟨wc_Cb_drop, wi_CutBlocks, ⟨by decide, by decide⟩, by decide +kernel, by decide⟩
theorem win_Cb_drop : Cond.instanceMethod y_Cb_drop.2.1 ∈ kv_tb := kv_tb_in (List.mem_of_getElem? (i := 470) (by decide +kernel)) rfl
theorem wl_Cb_drop : Cond.selects "CutBlocks" y_Cb_drop.2.1 y_Cb_drop.2.1 ∈ kv_tb := kv_tb_in (List.mem_of_getElem? (i := 471) (by decide +kernel)) rfl
theorem lb_Sto_has : kv_LB y_Sto_has 1 := ⟨wc_Sto_has, wi_CutBlocks_Store, ⟨by decide, by decide⟩, by decide +kernel, by decide⟩
theorem win_Sto_has : Cond.instanceMethod y_Sto_has.2.1 ∈ kv_tb := kv_tb_in (List.mem_of_getElem? (i := 474) (by decide +kernel)) rfl
theorem wl_Sto_has : Cond.selects "CutBlocks$Store" y_Sto_has.2.1 y_Sto_has.2.1 ∈ kv_tb := kv_tb_in (List.mem_of_getElem? (i := 475) (by decide +kernel)) rfl
theorem lb_Sto_letGo : kv_LB y_Sto_letGo 1 := ⟨wc_Sto_letGo, wi_CutBlocks_Store, ⟨by decide, by decide⟩, by decide +kernel, by decide⟩
theorem win_Sto_letGo : Cond.instanceMethod y_Sto_letGo.2.1 ∈ kv_tb := kv_tb_in (List.mem_of_getElem? (i := 478) (by decide +kernel)) rfl
theorem wl_Sto_letGo : Cond.selects "CutBlocks$Store" y_Sto_letGo.2.1 y_Sto_letGo.2.1 ∈ kv_tb := kv_tb_in (List.mem_of_getElem? (i := 479) (by decide +kernel)) rfl
theorem lb_Cb_restore : kv_LB y_Cb_restore 2 := ⟨wc_Cb_restore, wi_CutBlocks, ⟨by decide, by decide⟩, by decide +kernel, by decide⟩
theorem win_Cb_restore : Cond.instanceMethod y_Cb_restore.2.1 ∈ kv_tb := kv_tb_in (List.mem_of_getElem? (i := 482) (by decide +kernel)) rfl
theorem wl_Cb_restore : Cond.selects "CutBlocks" y_Cb_restore.2.1 y_Cb_restore.2.1 ∈ kv_tb := kv_tb_in (List.mem_of_getElem? (i := 483) (by decide +kernel)) rfl
theorem lb_Sto_giveBack : kv_LB y_Sto_giveBack 2 := ⟨wc_Sto_giveBack, wi_CutBlocks_Store, ⟨by decide, by decide⟩, by decide +kernel, by decide⟩
theorem win_Sto_giveBack : Cond.instanceMethod y_Sto_giveBack.2.1 ∈ kv_tb := kv_tb_in (List.mem_of_getElem? (i := 486) (by decide +kernel)) rfl
theorem wl_Sto_giveBack : Cond.selects "CutBlocks$Store" y_Sto_giveBack.2.1 y_Sto_giveBack.2.1 ∈ kv_tb := kv_tb_in (List.mem_of_getElem? (i := 487) (by decide +kernel)) rfl
theorem lb_Cb_told : kv_LB y_Cb_told 2 := ⟨wc_Cb_told, wi_CutBlocks, ⟨by decide, by decide⟩, by decide +kernel, by decide⟩
theorem win_Cb_told : Cond.instanceMethod y_Cb_told.2.1 ∈ kv_tb := kv_tb_in (List.mem_of_getElem? (i := 492) (by decide +kernel)) rfl
theorem wl_Cb_told : Cond.selects "CutBlocks" y_Cb_told.2.1 y_Cb_told.2.1 ∈ kv_tb := kv_tb_in (List.mem_of_getElem? (i := 493) (by decide +kernel)) rfl
theorem lb_Cb_uses : kv_LB y_Cb_uses 2 := ⟨wc_Cb_uses, wi_CutBlocks, ⟨by decide, by decide⟩, by decide +kernel, by decide⟩
theorem win_Cb_uses : Cond.instanceMethod y_Cb_uses.2.1 ∈ kv_tb := kv_tb_in (List.mem_of_getElem? (i := 496) (by decide +kernel)) rfl
theorem wl_Cb_uses : Cond.selects "CutBlocks" y_Cb_uses.2.1 y_Cb_uses.2.1 ∈ kv_tb := kv_tb_in (List.mem_of_getElem? (i := 497) (by decide +kernel)) rfl
theorem lb_Sto_placesOf : kv_LB y_Sto_placesOf 2 := ⟨wc_Sto_placesOf, wi_CutBlocks_Store, ⟨by decide, by decide⟩, by decide +kernel, by decide⟩
theorem win_Sto_placesOf : Cond.instanceMethod y_Sto_placesOf.2.1 ∈ kv_tb := kv_tb_in (List.mem_of_getElem? (i := 500) (by decide +kernel)) rfl
theorem wl_Sto_placesOf : Cond.selects "CutBlocks$Store" y_Sto_placesOf.2.1 y_Sto_placesOf.2.1 ∈ kv_tb := kv_tb_in (List.mem_of_getElem? (i := 501) (by decide +kernel)) rfl
theorem lb_Cb_kept : kv_LB y_Cb_kept 1 := ⟨wc_Cb_kept, wi_CutBlocks, ⟨by decide, by decide⟩, by decide +kernel, by decide⟩
theorem win_Cb_kept : Cond.instanceMethod y_Cb_kept.2.1 ∈ kv_tb := kv_tb_in (List.mem_of_getElem? (i := 504) (by decide +kernel)) rfl
theorem wl_Cb_kept : Cond.selects "CutBlocks" y_Cb_kept.2.1 y_Cb_kept.2.1 ∈ kv_tb := kv_tb_in (List.mem_of_getElem? (i := 505) (by decide +kernel)) rfl
theorem lb_Sto_snapshotsThere : kv_LB y_Sto_snapshotsThere 0 := ⟨wc_Sto_snapshotsThere, wi_CutBlocks_Store, ⟨by decide, by decide⟩, by decide +kernel, by decide⟩
theorem win_Sto_snapshotsThere : Cond.instanceMethod y_Sto_snapshotsThere.2.1 ∈ kv_tb := kv_tb_in (List.mem_of_getElem? (i := 508) (by decide +kernel)) rfl
theorem wl_Sto_snapshotsThere : Cond.selects "CutBlocks$Store" y_Sto_snapshotsThere.2.1 y_Sto_snapshotsThere.2.1 ∈ kv_tb := kv_tb_in (List.mem_of_getElem? (i := 509) (by decide +kernel)) rfl
theorem lb_Sto_allPlaces : kv_LB y_Sto_allPlaces 0 := ⟨wc_Sto_allPlaces, wi_CutBlocks_Store, ⟨by decide, by decide⟩, by decide +kernel, by decide⟩
theorem win_Sto_allPlaces : Cond.instanceMethod y_Sto_allPlaces.2.1 ∈ kv_tb := kv_tb_in (List.mem_of_getElem? (i := 513) (by decide +kernel)) rfl
theorem wl_Sto_allPlaces : Cond.selects "CutBlocks$Store" y_Sto_allPlaces.2.1 y_Sto_allPlaces.2.1 ∈ kv_tb := kv_tb_in (List.mem_of_getElem? (i := 514) (by decide +kernel)) rfl
theorem lb_Row_pairsOfOneKey : kv_LB y_Row_pairsOfOneKey 0 := ⟨wc_Row_pairsOfOneKey, wi_CutBlocks_Row, ⟨by decide, by decide⟩, by decide +kernel, by decide⟩
theorem win_Row_pairsOfOneKey : Cond.instanceMethod y_Row_pairsOfOneKey.2.1 ∈ kv_tb := kv_tb_in (List.mem_of_getElem? (i := 517) (by decide +kernel)) rfl
theorem wl_Row_pairsOfOneKey : Cond.selects "CutBlocks$Row" y_Row_pairsOfOneKey.2.1 y_Row_pairsOfOneKey.2.1 ∈ kv_tb := kv_tb_in (List.mem_of_getElem? (i := 518) (by decide +kernel)) rfl
theorem lb_Row_chainLength : kv_LB y_Row_chainLength 1 := ⟨wc_Row_chainLength, wi_CutBlocks_Row, ⟨by decide, by decide⟩, by decide +kernel, by decide⟩
theorem win_Row_chainLength : Cond.instanceMethod y_Row_chainLength.2.1 ∈ kv_tb := kv_tb_in (List.mem_of_getElem? (i := 522) (by decide +kernel)) rfl
theorem wl_Row_chainLength : Cond.selects "CutBlocks$Row" y_Row_chainLength.2.1 y_Row_chainLength.2.1 ∈ kv_tb := kv_tb_in (List.mem_of_getElem? (i := 13) (by decide +kernel)) rfl
theorem lb_Row_mostOfOneKey : kv_LB y_Row_mostOfOneKey 0 := ⟨wc_Row_mostOfOneKey, wi_CutBlocks_Row, ⟨by decide, by decide⟩, by decide +kernel, by decide⟩
theorem win_Row_mostOfOneKey : Cond.instanceMethod y_Row_mostOfOneKey.2.1 ∈ kv_tb := kv_tb_in (List.mem_of_getElem? (i := 525) (by decide +kernel)) rfl
theorem wl_Row_mostOfOneKey : Cond.selects "CutBlocks$Row" y_Row_mostOfOneKey.2.1 y_Row_mostOfOneKey.2.1 ∈ kv_tb := kv_tb_in (List.mem_of_getElem? (i := 526) (by decide +kernel)) rfl
theorem lb_Md_init : kv_LB y_Md_init 0 := ⟨wc_Md_init, wi_CutBlocksModel, ⟨by decide, by decide⟩, by decide +kernel, by decide⟩
theorem win_Md_init : Cond.instanceMethod y_Md_init.2.1 ∈ kv_tb := kv_tb_in (List.mem_of_getElem? (i := 534) (by decide +kernel)) rfl
theorem lb_Md_layTable : kv_LB y_Md_layTable 1 := ⟨wc_Md_layTable, wi_CutBlocksModel, ⟨by decide, by decide⟩, by decide +kernel, by decide⟩
theorem win_Md_layTable : Cond.instanceMethod y_Md_layTable.2.1 ∈ kv_tb := kv_tb_in (List.mem_of_getElem? (i := 539) (by decide +kernel)) rfl
theorem wl_Md_layTable : Cond.selects "CutBlocksModel" y_Md_layTable.2.1 y_Md_layTable.2.1 ∈ kv_tb := kv_tb_in (List.mem_of_getElem? (i := 14) (by decide +kernel)) rfl
theorem lb_Md_seed : kv_LB y_Md_seed 1 := ⟨wc_Md_seed, wi_CutBlocksModel, ⟨by decide, by decide⟩, by decide +kernel, by decide⟩
theorem win_Md_seed : Cond.instanceMethod y_Md_seed.2.1 ∈ kv_tb := kv_tb_in (List.mem_of_getElem? (i := 618) (by decide +kernel)) rfl
theorem wl_Md_seed : Cond.selects "CutBlocksModel" y_Md_seed.2.1 y_Md_seed.2.1 ∈ kv_tb := kv_tb_in (List.mem_of_getElem? (i := 619) (by decide +kernel)) rfl
theorem lb_Md_rule : kv_LB y_Md_rule 6 := ⟨wc_Md_rule, wi_CutBlocksModel, ⟨by decide, by decide⟩, by decide +kernel, by decide⟩
theorem win_Md_rule : Cond.instanceMethod y_Md_rule.2.1 ∈ kv_tb := kv_tb_in (List.mem_of_getElem? (i := 622) (by decide +kernel)) rfl
theorem wl_Md_rule : Cond.selects "CutBlocksModel" y_Md_rule.2.1 y_Md_rule.2.1 ∈ kv_tb := kv_tb_in (List.mem_of_getElem? (i := 623) (by decide +kernel)) rfl
theorem lb_Md_in : kv_LB y_Md_in 3 := ⟨wc_Md_in, wi_CutBlocksModel, ⟨by decide, by decide⟩, by decide +kernel, by decide⟩
theorem wst_Md_in : Cond.static y_Md_in.2.1 ∈ kv_tb := kv_tb_in (List.mem_of_getElem? (i := 626) (by decide +kernel)) rfl
theorem lb_Md_add : kv_LB y_Md_add 2 := ⟨wc_Md_add, wi_CutBlocksModel, ⟨by decide, by decide⟩, by decide +kernel, by decide⟩
theorem win_Md_add : Cond.instanceMethod y_Md_add.2.1 ∈ kv_tb := kv_tb_in (List.mem_of_getElem? (i := 629) (by decide +kernel)) rfl
theorem wl_Md_add : Cond.selects "CutBlocksModel" y_Md_add.2.1 y_Md_add.2.1 ∈ kv_tb := kv_tb_in (List.mem_of_getElem? (i := 630) (by decide +kernel)) rfl
theorem lb_Md_isText : kv_LB y_Md_isText 1 := ⟨wc_Md_isText, wi_CutBlocksModel, ⟨by decide, by decide⟩, by decide +kernel, by decide⟩
theorem wst_Md_isText : Cond.static y_Md_isText.2.1 ∈ kv_tb := kv_tb_in (List.mem_of_getElem? (i := 633) (by decide +kernel)) rfl
theorem lb_Md_insertAt : kv_LB y_Md_insertAt 3 := ⟨wc_Md_insertAt, wi_CutBlocksModel, ⟨by decide, by decide⟩, by decide +kernel, by decide⟩
theorem win_Md_insertAt : Cond.instanceMethod y_Md_insertAt.2.1 ∈ kv_tb := kv_tb_in (List.mem_of_getElem? (i := 637) (by decide +kernel)) rfl
theorem wl_Md_insertAt : Cond.selects "CutBlocksModel" y_Md_insertAt.2.1 y_Md_insertAt.2.1 ∈ kv_tb := kv_tb_in (List.mem_of_getElem? (i := 15) (by decide +kernel)) rfl
theorem lb_Md_fill : kv_LB y_Md_fill 4 := ⟨wc_Md_fill, wi_CutBlocksModel, ⟨by decide, by decide⟩, by decide +kernel, by decide⟩
theorem win_Md_fill : Cond.instanceMethod y_Md_fill.2.1 ∈ kv_tb := kv_tb_in (List.mem_of_getElem? (i := 640) (by decide +kernel)) rfl
theorem wl_Md_fill : Cond.selects "CutBlocksModel" y_Md_fill.2.1 y_Md_fill.2.1 ∈ kv_tb := kv_tb_in (List.mem_of_getElem? (i := 641) (by decide +kernel)) rfl
theorem lb_Md_insert : kv_LB y_Md_insert 3 := ⟨wc_Md_insert, wi_CutBlocksModel, ⟨by decide, by decide⟩, by decide +kernel, by decide⟩
theorem win_Md_insert : Cond.instanceMethod y_Md_insert.2.1 ∈ kv_tb := kv_tb_in (List.mem_of_getElem? (i := 645) (by decide +kernel)) rfl
theorem wl_Md_insert : Cond.selects "CutBlocksModel" y_Md_insert.2.1 y_Md_insert.2.1 ∈ kv_tb := kv_tb_in (List.mem_of_getElem? (i := 646) (by decide +kernel)) rfl
theorem lb_Md_remove : kv_LB y_Md_remove 3 := ⟨wc_Md_remove, wi_CutBlocksModel, ⟨by decide, by decide⟩, by decide +kernel, by decide⟩
theorem win_Md_remove : Cond.instanceMethod y_Md_remove.2.1 ∈ kv_tb := kv_tb_in (List.mem_of_getElem? (i := 649) (by decide +kernel)) rfl
theorem wl_Md_remove : Cond.selects "CutBlocksModel" y_Md_remove.2.1 y_Md_remove.2.1 ∈ kv_tb := kv_tb_in (List.mem_of_getElem? (i := 650) (by decide +kernel)) rfl
theorem lb_Md_copy : kv_LB y_Md_copy 2 := ⟨wc_Md_copy, wi_CutBlocksModel, ⟨by decide, by decide⟩, by decide +kernel, by decide⟩
theorem win_Md_copy : Cond.instanceMethod y_Md_copy.2.1 ∈ kv_tb := kv_tb_in (List.mem_of_getElem? (i := 653) (by decide +kernel)) rfl
theorem wl_Md_copy : Cond.selects "CutBlocksModel" y_Md_copy.2.1 y_Md_copy.2.1 ∈ kv_tb := kv_tb_in (List.mem_of_getElem? (i := 654) (by decide +kernel)) rfl
theorem lb_Md_size : kv_LB y_Md_size 1 := ⟨wc_Md_size, wi_CutBlocksModel, ⟨by decide, by decide⟩, by decide +kernel, by decide⟩
theorem win_Md_size : Cond.instanceMethod y_Md_size.2.1 ∈ kv_tb := kv_tb_in (List.mem_of_getElem? (i := 657) (by decide +kernel)) rfl
theorem wl_Md_size : Cond.selects "CutBlocksModel" y_Md_size.2.1 y_Md_size.2.1 ∈ kv_tb := kv_tb_in (List.mem_of_getElem? (i := 658) (by decide +kernel)) rfl
theorem lb_Md_byteAt : kv_LB y_Md_byteAt 2 := ⟨wc_Md_byteAt, wi_CutBlocksModel, ⟨by decide, by decide⟩, by decide +kernel, by decide⟩
theorem win_Md_byteAt : Cond.instanceMethod y_Md_byteAt.2.1 ∈ kv_tb := kv_tb_in (List.mem_of_getElem? (i := 661) (by decide +kernel)) rfl
theorem wl_Md_byteAt : Cond.selects "CutBlocksModel" y_Md_byteAt.2.1 y_Md_byteAt.2.1 ∈ kv_tb := kv_tb_in (List.mem_of_getElem? (i := 662) (by decide +kernel)) rfl
theorem lb_Md_blocks : kv_LB y_Md_blocks 1 := ⟨wc_Md_blocks, wi_CutBlocksModel, ⟨by decide, by decide⟩, by decide +kernel, by decide⟩
theorem win_Md_blocks : Cond.instanceMethod y_Md_blocks.2.1 ∈ kv_tb := kv_tb_in (List.mem_of_getElem? (i := 665) (by decide +kernel)) rfl
theorem wl_Md_blocks : Cond.selects "CutBlocksModel" y_Md_blocks.2.1 y_Md_blocks.2.1 ∈ kv_tb := kv_tb_in (List.mem_of_getElem? (i := 666) (by decide +kernel)) rfl
theorem lb_Md_layCuts : kv_LB y_Md_layCuts 2 := ⟨wc_Md_layCuts, wi_CutBlocksModel, ⟨by decide, by decide⟩, by decide +kernel, by decide⟩
theorem win_Md_layCuts : Cond.instanceMethod y_Md_layCuts.2.1 ∈ kv_tb := kv_tb_in (List.mem_of_getElem? (i := 670) (by decide +kernel)) rfl
theorem wl_Md_layCuts : Cond.selects "CutBlocksModel" y_Md_layCuts.2.1 y_Md_layCuts.2.1 ∈ kv_tb := kv_tb_in (List.mem_of_getElem? (i := 16) (by decide +kernel)) rfl
theorem lb_Md_longFrom : kv_LB y_Md_longFrom 2 := ⟨wc_Md_longFrom, wi_CutBlocksModel, ⟨by decide, by decide⟩, by decide +kernel, by decide⟩
theorem win_Md_longFrom : Cond.instanceMethod y_Md_longFrom.2.1 ∈ kv_tb := kv_tb_in (List.mem_of_getElem? (i := 674) (by decide +kernel)) rfl
theorem wl_Md_longFrom : Cond.selects "CutBlocksModel" y_Md_longFrom.2.1 y_Md_longFrom.2.1 ∈ kv_tb := kv_tb_in (List.mem_of_getElem? (i := 17) (by decide +kernel)) rfl
theorem lb_Md_next : kv_LB y_Md_next 4 := ⟨wc_Md_next, wi_CutBlocksModel, ⟨by decide, by decide⟩, by decide +kernel, by decide⟩
theorem win_Md_next : Cond.instanceMethod y_Md_next.2.1 ∈ kv_tb := kv_tb_in (List.mem_of_getElem? (i := 678) (by decide +kernel)) rfl
theorem wl_Md_next : Cond.selects "CutBlocksModel" y_Md_next.2.1 y_Md_next.2.1 ∈ kv_tb := kv_tb_in (List.mem_of_getElem? (i := 18) (by decide +kernel)) rfl
theorem lb_Md_turn : kv_LB y_Md_turn 2 := ⟨wc_Md_turn, wi_CutBlocksModel, ⟨by decide, by decide⟩, by decide +kernel, by decide⟩
theorem wst_Md_turn : Cond.static y_Md_turn.2.1 ∈ kv_tb := kv_tb_in (List.mem_of_getElem? (i := 681) (by decide +kernel)) rfl
theorem lb_Md_isMarked : kv_LB y_Md_isMarked 2 := ⟨wc_Md_isMarked, wi_CutBlocksModel, ⟨by decide, by decide⟩, by decide +kernel, by decide⟩
theorem wst_Md_isMarked : Cond.static y_Md_isMarked.2.1 ∈ kv_tb := kv_tb_in (List.mem_of_getElem? (i := 684) (by decide +kernel)) rfl
theorem lb_Md_block : kv_LB y_Md_block 3 := ⟨wc_Md_block, wi_CutBlocksModel, ⟨by decide, by decide⟩, by decide +kernel, by decide⟩
theorem win_Md_block : Cond.instanceMethod y_Md_block.2.1 ∈ kv_tb := kv_tb_in (List.mem_of_getElem? (i := 687) (by decide +kernel)) rfl
theorem wl_Md_block : Cond.selects "CutBlocksModel" y_Md_block.2.1 y_Md_block.2.1 ∈ kv_tb := kv_tb_in (List.mem_of_getElem? (i := 688) (by decide +kernel)) rfl
theorem lb_Md_isBlock : kv_LB y_Md_isBlock 2 := ⟨wc_Md_isBlock, wi_CutBlocksModel, ⟨by decide, by decide⟩, by decide +kernel, by decide⟩
theorem win_Md_isBlock : Cond.instanceMethod y_Md_isBlock.2.1 ∈ kv_tb := kv_tb_in (List.mem_of_getElem? (i := 692) (by decide +kernel)) rfl
theorem wl_Md_isBlock : Cond.selects "CutBlocksModel" y_Md_isBlock.2.1 y_Md_isBlock.2.1 ∈ kv_tb := kv_tb_in (List.mem_of_getElem? (i := 19) (by decide +kernel)) rfl
theorem lb_Md_digest : kv_LB y_Md_digest 3 := ⟨wc_Md_digest, wi_CutBlocksModel, ⟨by decide, by decide⟩, by decide +kernel, by decide⟩
theorem win_Md_digest : Cond.instanceMethod y_Md_digest.2.1 ∈ kv_tb := kv_tb_in (List.mem_of_getElem? (i := 695) (by decide +kernel)) rfl
theorem wl_Md_digest : Cond.selects "CutBlocksModel" y_Md_digest.2.1 y_Md_digest.2.1 ∈ kv_tb := kv_tb_in (List.mem_of_getElem? (i := 696) (by decide +kernel)) rfl
theorem lb_Md_digestOf : kv_LB y_Md_digestOf 4 := ⟨wc_Md_digestOf, wi_CutBlocksModel, ⟨by decide, by decide⟩, by decide +kernel, by decide⟩
theorem wst_Md_digestOf : Cond.static y_Md_digestOf.2.1 ∈ kv_tb := kv_tb_in (List.mem_of_getElem? (i := 700) (by decide +kernel)) rfl
theorem lb_Md_hash : kv_LB y_Md_hash 2 := ⟨wc_Md_hash, wi_CutBlocksModel, ⟨by decide, by decide⟩, by decide +kernel, by decide⟩
theorem win_Md_hash : Cond.instanceMethod y_Md_hash.2.1 ∈ kv_tb := kv_tb_in (List.mem_of_getElem? (i := 708) (by decide +kernel)) rfl
theorem wl_Md_hash : Cond.selects "CutBlocksModel" y_Md_hash.2.1 y_Md_hash.2.1 ∈ kv_tb := kv_tb_in (List.mem_of_getElem? (i := 709) (by decide +kernel)) rfl
theorem lb_Md_alike : kv_LB y_Md_alike 3 := ⟨wc_Md_alike, wi_CutBlocksModel, ⟨by decide, by decide⟩, by decide +kernel, by decide⟩
theorem win_Md_alike : Cond.instanceMethod y_Md_alike.2.1 ∈ kv_tb := kv_tb_in (List.mem_of_getElem? (i := 712) (by decide +kernel)) rfl
theorem wl_Md_alike : Cond.selects "CutBlocksModel" y_Md_alike.2.1 y_Md_alike.2.1 ∈ kv_tb := kv_tb_in (List.mem_of_getElem? (i := 713) (by decide +kernel)) rfl
theorem lb_Md_isLike : kv_LB y_Md_isLike 4 := ⟨wc_Md_isLike, wi_CutBlocksModel, ⟨by decide, by decide⟩, by decide +kernel, by decide⟩
theorem win_Md_isLike : Cond.instanceMethod y_Md_isLike.2.1 ∈ kv_tb := kv_tb_in (List.mem_of_getElem? (i := 717) (by decide +kernel)) rfl
theorem wl_Md_isLike : Cond.selects "CutBlocksModel" y_Md_isLike.2.1 y_Md_isLike.2.1 ∈ kv_tb := kv_tb_in (List.mem_of_getElem? (i := 20) (by decide +kernel)) rfl
theorem lb_Md_isSame : kv_LB y_Md_isSame 5 := ⟨wc_Md_isSame, wi_CutBlocksModel, ⟨by decide, by decide⟩, by decide +kernel, by decide⟩
theorem wst_Md_isSame : Cond.static y_Md_isSame.2.1 ∈ kv_tb := kv_tb_in (List.mem_of_getElem? (i := 720) (by decide +kernel)) rfl
theorem lb_Md_keep : kv_LB y_Md_keep 1 := ⟨wc_Md_keep, wi_CutBlocksModel, ⟨by decide, by decide⟩, by decide +kernel, by decide⟩
theorem win_Md_keep : Cond.instanceMethod y_Md_keep.2.1 ∈ kv_tb := kv_tb_in (List.mem_of_getElem? (i := 723) (by decide +kernel)) rfl
theorem wl_Md_keep : Cond.selects "CutBlocksModel" y_Md_keep.2.1 y_Md_keep.2.1 ∈ kv_tb := kv_tb_in (List.mem_of_getElem? (i := 724) (by decide +kernel)) rfl
theorem lb_Md_find : kv_LB y_Md_find 2 := ⟨wc_Md_find, wi_CutBlocksModel, ⟨by decide, by decide⟩, by decide +kernel, by decide⟩
theorem win_Md_find : Cond.instanceMethod y_Md_find.2.1 ∈ kv_tb := kv_tb_in (List.mem_of_getElem? (i := 728) (by decide +kernel)) rfl
theorem wl_Md_find : Cond.selects "CutBlocksModel" y_Md_find.2.1 y_Md_find.2.1 ∈ kv_tb := kv_tb_in (List.mem_of_getElem? (i := 21) (by decide +kernel)) rfl
theorem lb_Md_giveUp : kv_LB y_Md_giveUp 4 := ⟨wc_Md_giveUp, wi_CutBlocksModel, ⟨by decide, by decide⟩, by decide +kernel, by decide⟩
theorem win_Md_giveUp : Cond.instanceMethod y_Md_giveUp.2.1 ∈ kv_tb := kv_tb_in (List.mem_of_getElem? (i := 732) (by decide +kernel)) rfl
theorem wl_Md_giveUp : Cond.selects "CutBlocksModel" y_Md_giveUp.2.1 y_Md_giveUp.2.1 ∈ kv_tb := kv_tb_in (List.mem_of_getElem? (i := 22) (by decide +kernel)) rfl
theorem lb_Md_drop : kv_LB y_Md_drop 1 := ⟨wc_Md_drop, wi_CutBlocksModel, ⟨by decide, by decide⟩, by decide +kernel, by decide⟩
theorem win_Md_drop : Cond.instanceMethod y_Md_drop.2.1 ∈ kv_tb := kv_tb_in (List.mem_of_getElem? (i := 735) (by decide +kernel)) rfl
theorem wl_Md_drop : Cond.selects "CutBlocksModel" y_Md_drop.2.1 y_Md_drop.2.1 ∈ kv_tb := kv_tb_in (List.mem_of_getElem? (i := 736) (by decide +kernel)) rfl
theorem lb_Md_isSnapshot : kv_LB y_Md_isSnapshot 1 := ⟨wc_Md_isSnapshot, wi_CutBlocksModel, ⟨by decide, by decide⟩, by decide +kernel, by decide⟩
theorem win_Md_isSnapshot : Cond.instanceMethod y_Md_isSnapshot.2.1 ∈ kv_tb := kv_tb_in (List.mem_of_getElem? (i := 740) (by decide +kernel)) rfl
theorem wl_Md_isSnapshot : Cond.selects "CutBlocksModel" y_Md_isSnapshot.2.1 y_Md_isSnapshot.2.1 ∈ kv_tb := kv_tb_in (List.mem_of_getElem? (i := 23) (by decide +kernel)) rfl
theorem lb_Md_takeOut : kv_LB y_Md_takeOut 1 := ⟨wc_Md_takeOut, wi_CutBlocksModel, ⟨by decide, by decide⟩, by decide +kernel, by decide⟩
theorem win_Md_takeOut : Cond.instanceMethod y_Md_takeOut.2.1 ∈ kv_tb := kv_tb_in (List.mem_of_getElem? (i := 744) (by decide +kernel)) rfl
theorem wl_Md_takeOut : Cond.selects "CutBlocksModel" y_Md_takeOut.2.1 y_Md_takeOut.2.1 ∈ kv_tb := kv_tb_in (List.mem_of_getElem? (i := 24) (by decide +kernel)) rfl
theorem lb_Md_restore : kv_LB y_Md_restore 2 := ⟨wc_Md_restore, wi_CutBlocksModel, ⟨by decide, by decide⟩, by decide +kernel, by decide⟩
theorem win_Md_restore : Cond.instanceMethod y_Md_restore.2.1 ∈ kv_tb := kv_tb_in (List.mem_of_getElem? (i := 747) (by decide +kernel)) rfl
theorem wl_Md_restore : Cond.selects "CutBlocksModel" y_Md_restore.2.1 y_Md_restore.2.1 ∈ kv_tb := kv_tb_in (List.mem_of_getElem? (i := 748) (by decide +kernel)) rfl
theorem lb_Md_told : kv_LB y_Md_told 2 := ⟨wc_Md_told, wi_CutBlocksModel, ⟨by decide, by decide⟩, by decide +kernel, by decide⟩
theorem win_Md_told : Cond.instanceMethod y_Md_told.2.1 ∈ kv_tb := kv_tb_in (List.mem_of_getElem? (i := 751) (by decide +kernel)) rfl
theorem wl_Md_told : Cond.selects "CutBlocksModel" y_Md_told.2.1 y_Md_told.2.1 ∈ kv_tb := kv_tb_in (List.mem_of_getElem? (i := 752) (by decide +kernel)) rfl
theorem lb_Md_bytesOf : kv_LB y_Md_bytesOf 1 := ⟨wc_Md_bytesOf, wi_CutBlocksModel, ⟨by decide, by decide⟩, by decide +kernel, by decide⟩
theorem win_Md_bytesOf : Cond.instanceMethod y_Md_bytesOf.2.1 ∈ kv_tb := kv_tb_in (List.mem_of_getElem? (i := 756) (by decide +kernel)) rfl
theorem wl_Md_bytesOf : Cond.selects "CutBlocksModel" y_Md_bytesOf.2.1 y_Md_bytesOf.2.1 ∈ kv_tb := kv_tb_in (List.mem_of_getElem? (i := 25) (by decide +kernel)) rfl
theorem lb_Md_uses : kv_LB y_Md_uses 2 := ⟨wc_Md_uses, wi_CutBlocksModel, ⟨by decide, by decide⟩, by decide +kernel, by decide⟩
theorem win_Md_uses : Cond.instanceMethod y_Md_uses.2.1 ∈ kv_tb := kv_tb_in (List.mem_of_getElem? (i := 759) (by decide +kernel)) rfl
theorem wl_Md_uses : Cond.selects "CutBlocksModel" y_Md_uses.2.1 y_Md_uses.2.1 ∈ kv_tb := kv_tb_in (List.mem_of_getElem? (i := 760) (by decide +kernel)) rfl
theorem lb_Md_kept : kv_LB y_Md_kept 1 := ⟨wc_Md_kept, wi_CutBlocksModel, ⟨by decide, by decide⟩, by decide +kernel, by decide⟩
theorem win_Md_kept : Cond.instanceMethod y_Md_kept.2.1 ∈ kv_tb := kv_tb_in (List.mem_of_getElem? (i := 763) (by decide +kernel)) rfl
theorem wl_Md_kept : Cond.selects "CutBlocksModel" y_Md_kept.2.1 y_Md_kept.2.1 ∈ kv_tb := kv_tb_in (List.mem_of_getElem? (i := 764) (by decide +kernel)) rfl
theorem lb_Md_keysTold : kv_LB y_Md_keysTold 1 := ⟨wc_Md_keysTold, wi_CutBlocksModel, ⟨by decide, by decide⟩, by decide +kernel, by decide⟩
theorem win_Md_keysTold : Cond.instanceMethod y_Md_keysTold.2.1 ∈ kv_tb := kv_tb_in (List.mem_of_getElem? (i := 768) (by decide +kernel)) rfl
theorem wl_Md_keysTold : Cond.selects "CutBlocksModel" y_Md_keysTold.2.1 y_Md_keysTold.2.1 ∈ kv_tb := kv_tb_in (List.mem_of_getElem? (i := 26) (by decide +kernel)) rfl
theorem lb_Md_keyOf : kv_LB y_Md_keyOf 1 := ⟨wc_Md_keyOf, wi_CutBlocksModel, ⟨by decide, by decide⟩, by decide +kernel, by decide⟩
theorem win_Md_keyOf : Cond.instanceMethod y_Md_keyOf.2.1 ∈ kv_tb := kv_tb_in (List.mem_of_getElem? (i := 772) (by decide +kernel)) rfl
theorem wl_Md_keyOf : Cond.selects "CutBlocksModel" y_Md_keyOf.2.1 y_Md_keyOf.2.1 ∈ kv_tb := kv_tb_in (List.mem_of_getElem? (i := 27) (by decide +kernel)) rfl
theorem wm_Cb_1 : Cond.methodLink "CutBlocks" 1 ⟨"java/lang/Object", "<init>", "()V"⟩ ∈ kv_tb := kv_tb_in (List.mem_of_getElem? (i := 44) (by decide +kernel)) rfl
theorem wm_Cb_9 : Cond.methodLink "CutBlocks" 9 y_Rul_init.2.1 ∈ kv_tb := kv_tb_in (List.mem_of_getElem? (i := 49) (by decide +kernel)) rfl
theorem ls_Cb_9 : kv_LI "CutBlocks" 9 y_Rul_init 0 := ⟨lb_Rul_init, Or.inl wm_Cb_9, win_Rul_init, rfl, rfl⟩
theorem wm_Cb_22 : Cond.methodLinkNest "CutBlocks" 22 y_Txt_init.2.1 "CutBlocks" ∈ kv_nw := kv_nw_in (List.mem_of_getElem? (i := 89) (by decide +kernel)) rfl
theorem ls_Cb_22 : kv_LI "CutBlocks" 22 y_Txt_init 0 := ⟨lb_Txt_init, Or.inr ⟨"CutBlocks", wm_Cb_22⟩, win_Txt_init, rfl, rfl⟩
theorem wm_Cb_25 : Cond.methodLink "CutBlocks" 25 y_Sto_init.2.1 ∈ kv_tb := kv_tb_in (List.mem_of_getElem? (i := 151) (by decide +kernel)) rfl
theorem ls_Cb_25 : kv_LI "CutBlocks" 25 y_Sto_init 0 := ⟨lb_Sto_init, Or.inl wm_Cb_25, win_Sto_init, rfl, rfl⟩
theorem wm_Cb_30 : Cond.methodLink "CutBlocks" 30 y_Rul_sow.2.1 ∈ kv_tb := kv_tb_in (List.mem_of_getElem? (i := 209) (by decide +kernel)) rfl
theorem ls_Cb_30 : kv_LV "CutBlocks" 30 y_Rul_sow 1 1 := ⟨lb_Rul_sow, Or.inl wm_Cb_30, win_Rul_sow, (cR1, cT1, 7), rfl, wl_Rul_sow⟩
theorem wm_Cb_34 : Cond.methodLink "CutBlocks" 34 y_Cb_forgetAllCuts.2.1 ∈ kv_tb := kv_tb_in (List.mem_of_getElem? (i := 210) (by decide +kernel)) rfl
theorem ls_Cb_34 : kv_LV "CutBlocks" 34 y_Cb_forgetAllCuts 0 5 := ⟨lb_Cb_forgetAllCuts, Or.inl wm_Cb_34, win_Cb_forgetAllCuts, (cR5, cT5, 3), rfl, wl_Cb_forgetAllCuts⟩
theorem wm_Cb_37 : Cond.methodLink "CutBlocks" 37 y_Rul_fit.2.1 ∈ kv_tb := kv_tb_in (List.mem_of_getElem? (i := 222) (by decide +kernel)) rfl
theorem ls_Cb_37 : kv_LS "CutBlocks" 37 y_Rul_fit 6 := ⟨lb_Rul_fit, Or.inl wm_Cb_37, wst_Rul_fit⟩
theorem wm_Cb_41 : Cond.methodLink "CutBlocks" 41 y_Rul_take.2.1 ∈ kv_tb := kv_tb_in (List.mem_of_getElem? (i := 225) (by decide +kernel)) rfl
theorem ls_Cb_41 : kv_LV "CutBlocks" 41 y_Rul_take 6 1 := ⟨lb_Rul_take, Or.inl wm_Cb_41, win_Rul_take, (cR1, cT1, 7), rfl, wl_Rul_take⟩
theorem wm_Cb_45 : Cond.methodLink "CutBlocks" 45 y_Cb_isText.2.1 ∈ kv_tb := kv_tb_in (List.mem_of_getElem? (i := 230) (by decide +kernel)) rfl
theorem ls_Cb_45 : kv_LS "CutBlocks" 45 y_Cb_isText 1 := ⟨lb_Cb_isText, Or.inl wm_Cb_45, wst_Cb_isText⟩
theorem wm_Cb_49 : Cond.methodLink "CutBlocks" 49 y_Cb_isByte.2.1 ∈ kv_tb := kv_tb_in (List.mem_of_getElem? (i := 233) (by decide +kernel)) rfl
theorem ls_Cb_49 : kv_LS "CutBlocks" 49 y_Cb_isByte 1 := ⟨lb_Cb_isByte, Or.inl wm_Cb_49, wst_Cb_isByte⟩
theorem wm_Cb_56 : Cond.methodLink "CutBlocks" 56 y_Txt_put.2.1 ∈ kv_tb := kv_tb_in (List.mem_of_getElem? (i := 236) (by decide +kernel)) rfl
theorem ls_Cb_56 : kv_LV "CutBlocks" 56 y_Txt_put 2 4 := ⟨lb_Txt_put, Or.inl wm_Cb_56, win_Txt_put, (cR4, cT4, 4), rfl, wl_Txt_put⟩
theorem wm_Cb_60 : Cond.methodLink "CutBlocks" 60 y_Txt_sow.2.1 ∈ kv_tb := kv_tb_in (List.mem_of_getElem? (i := 252) (by decide +kernel)) rfl
theorem ls_Cb_60 : kv_LV "CutBlocks" 60 y_Txt_sow 3 4 := ⟨lb_Txt_sow, Or.inl wm_Cb_60, win_Txt_sow, (cR4, cT4, 4), rfl, wl_Txt_sow⟩
theorem wm_Cb_63 : Cond.methodLink "CutBlocks" 63 y_Txt_take.2.1 ∈ kv_tb := kv_tb_in (List.mem_of_getElem? (i := 265) (by decide +kernel)) rfl
theorem ls_Cb_63 : kv_LV "CutBlocks" 63 y_Txt_take 2 4 := ⟨lb_Txt_take, Or.inl wm_Cb_63, win_Txt_take, (cR4, cT4, 4), rfl, wl_Txt_take⟩
theorem wm_Cb_65 : Cond.methodLink "CutBlocks" 65 y_Txt_become.2.1 ∈ kv_tb := kv_tb_in (List.mem_of_getElem? (i := 273) (by decide +kernel)) rfl
theorem ls_Cb_65 : kv_LV "CutBlocks" 65 y_Txt_become 1 4 := ⟨lb_Txt_become, Or.inl wm_Cb_65, win_Txt_become, (cR4, cT4, 4), rfl, wl_Txt_become⟩
theorem wm_Cb_69 : Cond.methodLink "CutBlocks" 69 y_Cb_hasByte.2.1 ∈ kv_tb := kv_tb_in (List.mem_of_getElem? (i := 285) (by decide +kernel)) rfl
theorem ls_Cb_69 : kv_LV "CutBlocks" 69 y_Cb_hasByte 2 5 := ⟨lb_Cb_hasByte, Or.inl wm_Cb_69, win_Cb_hasByte, (cR5, cT5, 3), rfl, wl_Cb_hasByte⟩
theorem wm_Cb_83 : Cond.methodLink "CutBlocks" 83 y_Cb_cutRow.2.1 ∈ kv_tb := kv_tb_in (List.mem_of_getElem? (i := 293) (by decide +kernel)) rfl
theorem ls_Cb_83 : kv_LV "CutBlocks" 83 y_Cb_cutRow 1 5 := ⟨lb_Cb_cutRow, Or.inl wm_Cb_83, win_Cb_cutRow, (cR5, cT5, 3), rfl, wl_Cb_cutRow⟩
theorem wm_Cb_90 : Cond.methodLink "CutBlocks" 90 y_Cb_hasBlock.2.1 ∈ kv_tb := kv_tb_in (List.mem_of_getElem? (i := 335) (by decide +kernel)) rfl
theorem ls_Cb_90 : kv_LV "CutBlocks" 90 y_Cb_hasBlock 2 5 := ⟨lb_Cb_hasBlock, Or.inl wm_Cb_90, win_Cb_hasBlock, (cR5, cT5, 3), rfl, wl_Cb_hasBlock⟩
theorem wm_Cb_96 : Cond.methodLink "CutBlocks" 96 y_Row_bytesOf.2.1 ∈ kv_tb := kv_tb_in (List.mem_of_getElem? (i := 339) (by decide +kernel)) rfl
theorem ls_Cb_96 : kv_LV "CutBlocks" 96 y_Row_bytesOf 1 0 := ⟨lb_Row_bytesOf, Or.inl wm_Cb_96, win_Row_bytesOf, (cR0, cT0, 6), rfl, wl_Row_bytesOf⟩
theorem wm_Cb_102 : Cond.methodLink "CutBlocks" 102 y_Row_mixedSum.2.1 ∈ kv_tb := kv_tb_in (List.mem_of_getElem? (i := 348) (by decide +kernel)) rfl
theorem ls_Cb_102 : kv_LV "CutBlocks" 102 y_Row_mixedSum 1 0 := ⟨lb_Row_mixedSum, Or.inl wm_Cb_102, win_Row_mixedSum, (cR0, cT0, 6), rfl, wl_Row_mixedSum⟩
theorem wm_Cb_105 : Cond.methodLink "CutBlocks" 105 y_Cb_unsigned.2.1 ∈ kv_tb := kv_tb_in (List.mem_of_getElem? (i := 354) (by decide +kernel)) rfl
theorem ls_Cb_105 : kv_LS "CutBlocks" 105 y_Cb_unsigned 1 := ⟨lb_Cb_unsigned, Or.inl wm_Cb_105, wst_Cb_unsigned⟩
theorem wm_Cb_109 : Cond.methodLink "CutBlocks" 109 y_Row_doubleSum.2.1 ∈ kv_tb := kv_tb_in (List.mem_of_getElem? (i := 358) (by decide +kernel)) rfl
theorem ls_Cb_109 : kv_LV "CutBlocks" 109 y_Row_doubleSum 1 0 := ⟨lb_Row_doubleSum, Or.inl wm_Cb_109, win_Row_doubleSum, (cR0, cT0, 6), rfl, wl_Row_doubleSum⟩
theorem wm_Cb_112 : Cond.methodLink "CutBlocks" 112 y_Row_startOfBlockWith.2.1 ∈ kv_tb := kv_tb_in (List.mem_of_getElem? (i := 368) (by decide +kernel)) rfl
theorem ls_Cb_112 : kv_LV "CutBlocks" 112 y_Row_startOfBlockWith 1 0 := ⟨lb_Row_startOfBlockWith, Or.inl wm_Cb_112, win_Row_startOfBlockWith, (cR0, cT0, 6), rfl, wl_Row_startOfBlockWith⟩
theorem wm_Cb_115 : Cond.methodLink "CutBlocks" 115 y_Rul_numberAt.2.1 ∈ kv_tb := kv_tb_in (List.mem_of_getElem? (i := 372) (by decide +kernel)) rfl
theorem ls_Cb_115 : kv_LV "CutBlocks" 115 y_Rul_numberAt 3 1 := ⟨lb_Rul_numberAt, Or.inl wm_Cb_115, win_Rul_numberAt, (cR1, cT1, 7), rfl, wl_Rul_numberAt⟩
theorem wm_Cb_119 : Cond.methodLink "CutBlocks" 119 y_Cb_indexedRow.2.1 ∈ kv_tb := kv_tb_in (List.mem_of_getElem? (i := 380) (by decide +kernel)) rfl
theorem ls_Cb_119 : kv_LV "CutBlocks" 119 y_Cb_indexedRow 1 5 := ⟨lb_Cb_indexedRow, Or.inl wm_Cb_119, win_Cb_indexedRow, (cR5, cT5, 3), rfl, wl_Cb_indexedRow⟩
theorem wm_Cb_122 : Cond.methodLink "CutBlocks" 122 y_Row_blocksIn.2.1 ∈ kv_tb := kv_tb_in (List.mem_of_getElem? (i := 407) (by decide +kernel)) rfl
theorem ls_Cb_122 : kv_LV "CutBlocks" 122 y_Row_blocksIn 1 0 := ⟨lb_Row_blocksIn, Or.inl wm_Cb_122, win_Row_blocksIn, (cR0, cT0, 6), rfl, wl_Row_blocksIn⟩
theorem wm_Cb_126 : Cond.methodLink "CutBlocks" 126 y_Row_bytesIn.2.1 ∈ kv_tb := kv_tb_in (List.mem_of_getElem? (i := 411) (by decide +kernel)) rfl
theorem ls_Cb_126 : kv_LV "CutBlocks" 126 y_Row_bytesIn 1 0 := ⟨lb_Row_bytesIn, Or.inl wm_Cb_126, win_Row_bytesIn, (cR0, cT0, 6), rfl, wl_Row_bytesIn⟩
theorem wm_Cb_129 : Cond.methodLink "CutBlocks" 129 y_Row_firstLike.2.1 ∈ kv_tb := kv_tb_in (List.mem_of_getElem? (i := 415) (by decide +kernel)) rfl
theorem ls_Cb_129 : kv_LV "CutBlocks" 129 y_Row_firstLike 1 0 := ⟨lb_Row_firstLike, Or.inl wm_Cb_129, win_Row_firstLike, (cR0, cT0, 6), rfl, wl_Row_firstLike⟩
theorem wm_Cb_132 : Cond.methodLink "CutBlocks" 132 y_Row_lastLike.2.1 ∈ kv_tb := kv_tb_in (List.mem_of_getElem? (i := 422) (by decide +kernel)) rfl
theorem ls_Cb_132 : kv_LV "CutBlocks" 132 y_Row_lastLike 1 0 := ⟨lb_Row_lastLike, Or.inl wm_Cb_132, win_Row_lastLike, (cR0, cT0, 6), rfl, wl_Row_lastLike⟩
theorem wm_Cb_135 : Cond.methodLink "CutBlocks" 135 y_Sto_takeIn.2.1 ∈ kv_tb := kv_tb_in (List.mem_of_getElem? (i := 430) (by decide +kernel)) rfl
theorem ls_Cb_135 : kv_LV "CutBlocks" 135 y_Sto_takeIn 1 3 := ⟨lb_Sto_takeIn, Or.inl wm_Cb_135, win_Sto_takeIn, (cR3, cT3, 4), rfl, wl_Sto_takeIn⟩
theorem wm_Cb_138 : Cond.methodLink "CutBlocks" 138 y_Sto_has.2.1 ∈ kv_tb := kv_tb_in (List.mem_of_getElem? (i := 473) (by decide +kernel)) rfl
theorem ls_Cb_138 : kv_LV "CutBlocks" 138 y_Sto_has 1 3 := ⟨lb_Sto_has, Or.inl wm_Cb_138, win_Sto_has, (cR3, cT3, 4), rfl, wl_Sto_has⟩
theorem wm_Cb_141 : Cond.methodLink "CutBlocks" 141 y_Sto_letGo.2.1 ∈ kv_tb := kv_tb_in (List.mem_of_getElem? (i := 477) (by decide +kernel)) rfl
theorem ls_Cb_141 : kv_LV "CutBlocks" 141 y_Sto_letGo 1 3 := ⟨lb_Sto_letGo, Or.inl wm_Cb_141, win_Sto_letGo, (cR3, cT3, 4), rfl, wl_Sto_letGo⟩
theorem wm_Cb_144 : Cond.methodLink "CutBlocks" 144 y_Sto_giveBack.2.1 ∈ kv_tb := kv_tb_in (List.mem_of_getElem? (i := 485) (by decide +kernel)) rfl
theorem ls_Cb_144 : kv_LV "CutBlocks" 144 y_Sto_giveBack 2 3 := ⟨lb_Sto_giveBack, Or.inl wm_Cb_144, win_Sto_giveBack, (cR3, cT3, 4), rfl, wl_Sto_giveBack⟩
theorem wm_Cb_156 : Cond.methodLink "CutBlocks" 156 y_Sto_placesOf.2.1 ∈ kv_tb := kv_tb_in (List.mem_of_getElem? (i := 499) (by decide +kernel)) rfl
theorem ls_Cb_156 : kv_LV "CutBlocks" 156 y_Sto_placesOf 2 3 := ⟨lb_Sto_placesOf, Or.inl wm_Cb_156, win_Sto_placesOf, (cR3, cT3, 4), rfl, wl_Sto_placesOf⟩
theorem wm_Cb_160 : Cond.methodLink "CutBlocks" 160 y_Sto_snapshotsThere.2.1 ∈ kv_tb := kv_tb_in (List.mem_of_getElem? (i := 507) (by decide +kernel)) rfl
theorem ls_Cb_160 : kv_LV "CutBlocks" 160 y_Sto_snapshotsThere 0 3 := ⟨lb_Sto_snapshotsThere, Or.inl wm_Cb_160, win_Sto_snapshotsThere, (cR3, cT3, 4), rfl, wl_Sto_snapshotsThere⟩
theorem wm_Cb_165 : Cond.methodLink "CutBlocks" 165 y_Row_end.2.1 ∈ kv_tb := kv_tb_in (List.mem_of_getElem? (i := 511) (by decide +kernel)) rfl
theorem ls_Cb_165 : kv_LV "CutBlocks" 165 y_Row_end 0 0 := ⟨lb_Row_end, Or.inl wm_Cb_165, win_Row_end, (cR0, cT0, 6), rfl, wl_Row_end⟩
theorem wm_Cb_168 : Cond.methodLink "CutBlocks" 168 y_Sto_allPlaces.2.1 ∈ kv_tb := kv_tb_in (List.mem_of_getElem? (i := 512) (by decide +kernel)) rfl
theorem ls_Cb_168 : kv_LV "CutBlocks" 168 y_Sto_allPlaces 0 3 := ⟨lb_Sto_allPlaces, Or.inl wm_Cb_168, win_Sto_allPlaces, (cR3, cT3, 4), rfl, wl_Sto_allPlaces⟩
theorem wm_Cb_171 : Cond.methodLink "CutBlocks" 171 y_Row_pairsOfOneKey.2.1 ∈ kv_tb := kv_tb_in (List.mem_of_getElem? (i := 516) (by decide +kernel)) rfl
theorem ls_Cb_171 : kv_LV "CutBlocks" 171 y_Row_pairsOfOneKey 0 0 := ⟨lb_Row_pairsOfOneKey, Or.inl wm_Cb_171, win_Row_pairsOfOneKey, (cR0, cT0, 6), rfl, wl_Row_pairsOfOneKey⟩
theorem wm_Cb_174 : Cond.methodLink "CutBlocks" 174 y_Row_mostOfOneKey.2.1 ∈ kv_tb := kv_tb_in (List.mem_of_getElem? (i := 524) (by decide +kernel)) rfl
theorem ls_Cb_174 : kv_LV "CutBlocks" 174 y_Row_mostOfOneKey 0 0 := ⟨lb_Row_mostOfOneKey, Or.inl wm_Cb_174, win_Row_mostOfOneKey, (cR0, cT0, 6), rfl, wl_Row_mostOfOneKey⟩
theorem wm_Cb_179 : Cond.methodLink "CutBlocks" 179 y_Txt_cutBy.2.1 ∈ kv_tb := kv_tb_in (List.mem_of_getElem? (i := 297) (by decide +kernel)) rfl
theorem ls_Cb_179 : kv_LV "CutBlocks" 179 y_Txt_cutBy 1 4 := ⟨lb_Txt_cutBy, Or.inl wm_Cb_179, win_Txt_cutBy, (cR4, cT4, 4), rfl, wl_Txt_cutBy⟩
theorem wm_Cb_183 : Cond.methodLink "CutBlocks" 183 y_Txt_indexBy.2.1 ∈ kv_tb := kv_tb_in (List.mem_of_getElem? (i := 384) (by decide +kernel)) rfl
theorem ls_Cb_183 : kv_LV "CutBlocks" 183 y_Txt_indexBy 1 4 := ⟨lb_Txt_indexBy, Or.inl wm_Cb_183, win_Txt_indexBy, (cR4, cT4, 4), rfl, wl_Txt_indexBy⟩
theorem wm_Cb_186 : Cond.methodLink "CutBlocks" 186 y_Txt_forgetCuts.2.1 ∈ kv_tb := kv_tb_in (List.mem_of_getElem? (i := 214) (by decide +kernel)) rfl
theorem ls_Cb_186 : kv_LV "CutBlocks" 186 y_Txt_forgetCuts 0 4 := ⟨lb_Txt_forgetCuts, Or.inl wm_Cb_186, win_Txt_forgetCuts, (cR4, cT4, 4), rfl, wl_Txt_forgetCuts⟩
theorem wm_Row_3 : Cond.methodLink "CutBlocks$Row" 3 ⟨"java/lang/Object", "<init>", "()V"⟩ ∈ kv_tb := kv_tb_in (List.mem_of_getElem? (i := 98) (by decide +kernel)) rfl
theorem wm_Row_27 : Cond.methodLink "CutBlocks$Row" 27 y_Row_unchain.2.1 ∈ kv_tb := kv_tb_in (List.mem_of_getElem? (i := 99) (by decide +kernel)) rfl
theorem ls_Row_27 : kv_LV "CutBlocks$Row" 27 y_Row_unchain 0 0 := ⟨lb_Row_unchain, Or.inl wm_Row_27, win_Row_unchain, (cR0, cT0, 6), rfl, wl_Row_unchain⟩
theorem wm_Row_39 : Cond.methodLink "CutBlocks$Row" 39 y_Arr_fill.2.1 ∈ kv_tb := kv_tb_in (List.mem_of_getElem? (i := 103) (by decide +kernel)) rfl
theorem ls_Row_39 : kv_LS "CutBlocks$Row" 39 y_Arr_fill 2 := ⟨lb_Arr_fill, Or.inl wm_Row_39, wst_Arr_fill⟩
theorem wm_Row_45 : Cond.methodLink "CutBlocks$Row" 45 y_Row_mixedSum.2.1 ∈ kv_tb := kv_tb_in (List.mem_of_getElem? (i := 393) (by decide +kernel)) rfl
theorem ls_Row_45 : kv_LV "CutBlocks$Row" 45 y_Row_mixedSum 1 0 := ⟨lb_Row_mixedSum, Or.inl wm_Row_45, win_Row_mixedSum, (cR0, cT0, 6), rfl, wl_Row_mixedSum⟩
theorem wm_Row_49 : Cond.methodLink "CutBlocks$Row" 49 y_Row_find.2.1 ∈ kv_tb := kv_tb_in (List.mem_of_getElem? (i := 394) (by decide +kernel)) rfl
theorem ls_Row_49 : kv_LV "CutBlocks$Row" 49 y_Row_find 2 0 := ⟨lb_Row_find, Or.inl wm_Row_49, win_Row_find, (cR0, cT0, 6), rfl, wl_Row_find⟩
theorem wm_Row_53 : Cond.methodLink "CutBlocks$Row" 53 y_Row_chain.2.1 ∈ kv_tb := kv_tb_in (List.mem_of_getElem? (i := 403) (by decide +kernel)) rfl
theorem ls_Row_53 : kv_LV "CutBlocks$Row" 53 y_Row_chain 1 0 := ⟨lb_Row_chain, Or.inl wm_Row_53, win_Row_chain, (cR0, cT0, 6), rfl, wl_Row_chain⟩
theorem wm_Row_57 : Cond.methodLink "CutBlocks$Row" 57 y_Row_isLike.2.1 ∈ kv_tb := kv_tb_in (List.mem_of_getElem? (i := 398) (by decide +kernel)) rfl
theorem ls_Row_57 : kv_LV "CutBlocks$Row" 57 y_Row_isLike 3 0 := ⟨lb_Row_isLike, Or.inl wm_Row_57, win_Row_isLike, (cR0, cT0, 6), rfl, wl_Row_isLike⟩
theorem wm_Row_61 : Cond.methodLink "CutBlocks$Row" 61 y_Row_bytesOf.2.1 ∈ kv_tb := kv_tb_in (List.mem_of_getElem? (i := 402) (by decide +kernel)) rfl
theorem ls_Row_61 : kv_LV "CutBlocks$Row" 61 y_Row_bytesOf 1 0 := ⟨lb_Row_bytesOf, Or.inl wm_Row_61, win_Row_bytesOf, (cR0, cT0, 6), rfl, wl_Row_bytesOf⟩
theorem wm_Row_64 : Cond.methodLink "CutBlocks$Row" 64 ⟨"java/lang/Math", "min", "(II)I"⟩ ∈ kv_tb := kv_tb_in (List.mem_of_getElem? (i := 419) (by decide +kernel)) rfl
theorem wm_Row_70 : Cond.methodLink "CutBlocks$Row" 70 y_Row_end.2.1 ∈ kv_tb := kv_tb_in (List.mem_of_getElem? (i := 444) (by decide +kernel)) rfl
theorem ls_Row_70 : kv_LV "CutBlocks$Row" 70 y_Row_end 0 0 := ⟨lb_Row_end, Or.inl wm_Row_70, win_Row_end, (cR0, cT0, 6), rfl, wl_Row_end⟩
theorem wm_Row_74 : Cond.methodLink "CutBlocks$Row" 74 ⟨"java/lang/System", "arraycopy", "(Ljava/lang/Object;ILjava/lang/Object;II)V"⟩ ∈ kv_tb := kv_tb_in (List.mem_of_getElem? (i := 455) (by decide +kernel)) rfl
theorem wm_Row_80 : Cond.methodLink "CutBlocks$Row" 80 y_Row_close.2.1 ∈ kv_tb := kv_tb_in (List.mem_of_getElem? (i := 456) (by decide +kernel)) rfl
theorem ls_Row_80 : kv_LV "CutBlocks$Row" 80 y_Row_close 1 0 := ⟨lb_Row_close, Or.inl wm_Row_80, win_Row_close, (cR0, cT0, 6), rfl, wl_Row_close⟩
theorem wm_Row_83 : Cond.methodLink "CutBlocks$Row" 83 y_Row_chainLength.2.1 ∈ kv_tb := kv_tb_in (List.mem_of_getElem? (i := 520) (by decide +kernel)) rfl
theorem ls_Row_83 : kv_LV "CutBlocks$Row" 83 y_Row_chainLength 1 0 := ⟨lb_Row_chainLength, Or.inl wm_Row_83, win_Row_chainLength, (cR0, cT0, 6), rfl, wl_Row_chainLength⟩
theorem wm_Row_86 : Cond.methodLink "CutBlocks$Row" 86 ⟨"java/lang/Math", "max", "(II)I"⟩ ∈ kv_tb := kv_tb_in (List.mem_of_getElem? (i := 528) (by decide +kernel)) rfl
theorem wm_Rul_3 : Cond.methodLink "CutBlocks$Rules" 3 ⟨"java/lang/Object", "<init>", "()V"⟩ ∈ kv_tb := kv_tb_in (List.mem_of_getElem? (i := 52) (by decide +kernel)) rfl
theorem wm_Rul_15 : Cond.methodLink "CutBlocks$Rules" 15 y_Rul_sow.2.1 ∈ kv_tb := kv_tb_in (List.mem_of_getElem? (i := 53) (by decide +kernel)) rfl
theorem ls_Rul_15 : kv_LV "CutBlocks$Rules" 15 y_Rul_sow 1 1 := ⟨lb_Rul_sow, Or.inl wm_Rul_15, win_Rul_sow, (cR1, cT1, 7), rfl, wl_Rul_sow⟩
theorem wm_Rul_19 : Cond.methodLink "CutBlocks$Rules" 19 y_Rul_take.2.1 ∈ kv_tb := kv_tb_in (List.mem_of_getElem? (i := 59) (by decide +kernel)) rfl
theorem ls_Rul_19 : kv_LV "CutBlocks$Rules" 19 y_Rul_take 6 1 := ⟨lb_Rul_take, Or.inl wm_Rul_19, win_Rul_take, (cR1, cT1, 7), rfl, wl_Rul_take⟩
theorem wm_Rul_44 : Cond.methodLink "CutBlocks$Rules" 44 y_Rul_numberWith.2.1 ∈ kv_tb := kv_tb_in (List.mem_of_getElem? (i := 309) (by decide +kernel)) rfl
theorem ls_Rul_44 : kv_LV "CutBlocks$Rules" 44 y_Rul_numberWith 4 1 := ⟨lb_Rul_numberWith, Or.inl wm_Rul_44, win_Rul_numberWith, (cR1, cT1, 7), rfl, wl_Rul_numberWith⟩
theorem wm_Rul_48 : Cond.methodLink "CutBlocks$Rules" 48 y_Rul_allowed.2.1 ∈ kv_tb := kv_tb_in (List.mem_of_getElem? (i := 316) (by decide +kernel)) rfl
theorem ls_Rul_48 : kv_LV "CutBlocks$Rules" 48 y_Rul_allowed 1 1 := ⟨lb_Rul_allowed, Or.inl wm_Rul_48, win_Rul_allowed, (cR1, cT1, 7), rfl, wl_Rul_allowed⟩
theorem wm_Rul_52 : Cond.methodLink "CutBlocks$Rules" 52 y_Rul_marksAt.2.1 ∈ kv_tb := kv_tb_in (List.mem_of_getElem? (i := 320) (by decide +kernel)) rfl
theorem ls_Rul_52 : kv_LV "CutBlocks$Rules" 52 y_Rul_marksAt 1 1 := ⟨lb_Rul_marksAt, Or.inl wm_Rul_52, win_Rul_marksAt, (cR1, cT1, 7), rfl, wl_Rul_marksAt⟩
theorem wm_Rul_56 : Cond.methodLink "CutBlocks$Rules" 56 y_Rul_marked.2.1 ∈ kv_tb := kv_tb_in (List.mem_of_getElem? (i := 324) (by decide +kernel)) rfl
theorem ls_Rul_56 : kv_LS "CutBlocks$Rules" 56 y_Rul_marked 2 := ⟨lb_Rul_marked, Or.inl wm_Rul_56, wst_Rul_marked⟩
theorem wm_Rul_60 : Cond.methodLink "CutBlocks$Rules" 60 y_Rul_turnedLeft.2.1 ∈ kv_tb := kv_tb_in (List.mem_of_getElem? (i := 313) (by decide +kernel)) rfl
theorem ls_Rul_60 : kv_LS "CutBlocks$Rules" 60 y_Rul_turnedLeft 2 := ⟨lb_Rul_turnedLeft, Or.inl wm_Rul_60, wst_Rul_turnedLeft⟩
theorem wm_Snp_3 : Cond.methodLink "CutBlocks$Snapshot" 3 ⟨"java/lang/Object", "<init>", "()V"⟩ ∈ kv_tb := kv_tb_in (List.mem_of_getElem? (i := 163) (by decide +kernel)) rfl
theorem wm_Sto_3 : Cond.methodLink "CutBlocks$Store" 3 ⟨"java/lang/Object", "<init>", "()V"⟩ ∈ kv_tb := kv_tb_in (List.mem_of_getElem? (i := 154) (by decide +kernel)) rfl
theorem wm_Sto_11 : Cond.methodLink "CutBlocks$Store" 11 y_Row_init.2.1 ∈ kv_tb := kv_tb_in (List.mem_of_getElem? (i := 156) (by decide +kernel)) rfl
theorem ls_Sto_11 : kv_LI "CutBlocks$Store" 11 y_Row_init 2 := ⟨lb_Row_init, Or.inl wm_Sto_11, win_Row_init, rfl, rfl⟩
theorem wm_Sto_33 : Cond.methodLinkNest "CutBlocks$Store" 33 y_Snp_init.2.1 "CutBlocks" ∈ kv_nw := kv_nw_in (List.mem_of_getElem? (i := 160) (by decide +kernel)) rfl
theorem ls_Sto_33 : kv_LI "CutBlocks$Store" 33 y_Snp_init 0 := ⟨lb_Snp_init, Or.inr ⟨"CutBlocks", wm_Sto_33⟩, win_Snp_init, rfl, rfl⟩
theorem wm_Sto_38 : Cond.methodLink "CutBlocks$Store" 38 y_Sto_leastFree.2.1 ∈ kv_tb := kv_tb_in (List.mem_of_getElem? (i := 434) (by decide +kernel)) rfl
theorem ls_Sto_38 : kv_LV "CutBlocks$Store" 38 y_Sto_leastFree 0 3 := ⟨lb_Sto_leastFree, Or.inl wm_Sto_38, win_Sto_leastFree, (cR3, cT3, 4), rfl, wl_Sto_leastFree⟩
theorem wm_Sto_46 : Cond.methodLink "CutBlocks$Store" 46 y_Row_find.2.1 ∈ kv_tb := kv_tb_in (List.mem_of_getElem? (i := 438) (by decide +kernel)) rfl
theorem ls_Sto_46 : kv_LV "CutBlocks$Store" 46 y_Row_find 2 0 := ⟨lb_Row_find, Or.inl wm_Sto_46, win_Row_find, (cR0, cT0, 6), rfl, wl_Row_find⟩
theorem wm_Sto_50 : Cond.methodLink "CutBlocks$Store" 50 y_Row_bytesOf.2.1 ∈ kv_tb := kv_tb_in (List.mem_of_getElem? (i := 439) (by decide +kernel)) rfl
theorem ls_Sto_50 : kv_LV "CutBlocks$Store" 50 y_Row_bytesOf 1 0 := ⟨lb_Row_bytesOf, Or.inl wm_Sto_50, win_Row_bytesOf, (cR0, cT0, 6), rfl, wl_Row_bytesOf⟩
theorem wm_Sto_54 : Cond.methodLink "CutBlocks$Store" 54 y_Row_hasRoomFor.2.1 ∈ kv_tb := kv_tb_in (List.mem_of_getElem? (i := 440) (by decide +kernel)) rfl
theorem ls_Sto_54 : kv_LV "CutBlocks$Store" 54 y_Row_hasRoomFor 1 0 := ⟨lb_Row_hasRoomFor, Or.inl wm_Sto_54, win_Row_hasRoomFor, (cR0, cT0, 6), rfl, wl_Row_hasRoomFor⟩
theorem wm_Sto_58 : Cond.methodLink "CutBlocks$Store" 58 y_Sto_sweep.2.1 ∈ kv_tb := kv_tb_in (List.mem_of_getElem? (i := 445) (by decide +kernel)) rfl
theorem ls_Sto_58 : kv_LV "CutBlocks$Store" 58 y_Sto_sweep 0 3 := ⟨lb_Sto_sweep, Or.inl wm_Sto_58, win_Sto_sweep, (cR3, cT3, 4), rfl, wl_Sto_sweep⟩
theorem wm_Sto_64 : Cond.methodLink "CutBlocks$Store" 64 y_Sto_takeInNew.2.1 ∈ kv_tb := kv_tb_in (List.mem_of_getElem? (i := 461) (by decide +kernel)) rfl
theorem ls_Sto_64 : kv_LV "CutBlocks$Store" 64 y_Sto_takeInNew 2 3 := ⟨lb_Sto_takeInNew, Or.inl wm_Sto_64, win_Sto_takeInNew, (cR3, cT3, 4), rfl, wl_Sto_takeInNew⟩
theorem wm_Sto_68 : Cond.methodLink "CutBlocks$Store" 68 y_Row_end.2.1 ∈ kv_tb := kv_tb_in (List.mem_of_getElem? (i := 449) (by decide +kernel)) rfl
theorem ls_Sto_68 : kv_LV "CutBlocks$Store" 68 y_Row_end 0 0 := ⟨lb_Row_end, Or.inl wm_Sto_68, win_Row_end, (cR0, cT0, 6), rfl, wl_Row_end⟩
theorem wm_Sto_74 : Cond.methodLink "CutBlocks$Store" 74 y_Sto_countPlaces.2.1 ∈ kv_tb := kv_tb_in (List.mem_of_getElem? (i := 465) (by decide +kernel)) rfl
theorem ls_Sto_74 : kv_LV "CutBlocks$Store" 74 y_Sto_countPlaces 2 3 := ⟨lb_Sto_countPlaces, Or.inl wm_Sto_74, win_Sto_countPlaces, (cR3, cT3, 4), rfl, wl_Sto_countPlaces⟩
theorem wm_Sto_87 : Cond.methodLink "CutBlocks$Store" 87 ⟨"java/lang/System", "arraycopy", "(Ljava/lang/Object;ILjava/lang/Object;II)V"⟩ ∈ kv_tb := kv_tb_in (List.mem_of_getElem? (i := 489) (by decide +kernel)) rfl
theorem wm_Sto_93 : Cond.methodLink "CutBlocks$Store" 93 y_Txt_changedTo.2.1 ∈ kv_tb := kv_tb_in (List.mem_of_getElem? (i := 490) (by decide +kernel)) rfl
theorem ls_Sto_93 : kv_LV "CutBlocks$Store" 93 y_Txt_changedTo 1 4 := ⟨lb_Txt_changedTo, Or.inl wm_Sto_93, win_Txt_changedTo, (cR4, cT4, 4), rfl, wl_Txt_changedTo⟩
theorem wm_Sto_96 : Cond.methodLink "CutBlocks$Store" 96 y_Row_append.2.1 ∈ kv_tb := kv_tb_in (List.mem_of_getElem? (i := 451) (by decide +kernel)) rfl
theorem ls_Sto_96 : kv_LV "CutBlocks$Store" 96 y_Row_append 2 0 := ⟨lb_Row_append, Or.inl wm_Sto_96, win_Row_append, (cR0, cT0, 6), rfl, wl_Row_append⟩
theorem wm_Sto_100 : Cond.methodLink "CutBlocks$Store" 100 y_Row_unchain.2.1 ∈ kv_tb := kv_tb_in (List.mem_of_getElem? (i := 450) (by decide +kernel)) rfl
theorem ls_Sto_100 : kv_LV "CutBlocks$Store" 100 y_Row_unchain 0 0 := ⟨lb_Row_unchain, Or.inl wm_Sto_100, win_Row_unchain, (cR0, cT0, 6), rfl, wl_Row_unchain⟩
theorem wm_Sto_103 : Cond.methodLink "CutBlocks$Store" 103 y_Sto_renumber.2.1 ∈ kv_tb := kv_tb_in (List.mem_of_getElem? (i := 457) (by decide +kernel)) rfl
theorem ls_Sto_103 : kv_LV "CutBlocks$Store" 103 y_Sto_renumber 0 3 := ⟨lb_Sto_renumber, Or.inl wm_Sto_103, win_Sto_renumber, (cR3, cT3, 4), rfl, wl_Sto_renumber⟩
theorem wm_Txt_3 : Cond.methodLink "CutBlocks$Text" 3 ⟨"java/lang/Object", "<init>", "()V"⟩ ∈ kv_tb := kv_tb_in (List.mem_of_getElem? (i := 92) (by decide +kernel)) rfl
theorem wm_Txt_11 : Cond.methodLink "CutBlocks$Text" 11 y_Row_init.2.1 ∈ kv_tb := kv_tb_in (List.mem_of_getElem? (i := 95) (by decide +kernel)) rfl
theorem ls_Txt_11 : kv_LI "CutBlocks$Text" 11 y_Row_init 2 := ⟨lb_Row_init, Or.inl wm_Txt_11, win_Row_init, rfl, rfl⟩
theorem wm_Txt_31 : Cond.methodLink "CutBlocks$Text" 31 y_Row_end.2.1 ∈ kv_tb := kv_tb_in (List.mem_of_getElem? (i := 301) (by decide +kernel)) rfl
theorem ls_Txt_31 : kv_LV "CutBlocks$Text" 31 y_Row_end 0 0 := ⟨lb_Row_end, Or.inl wm_Txt_31, win_Row_end, (cR0, cT0, 6), rfl, wl_Row_end⟩
theorem wm_Txt_42 : Cond.methodLink "CutBlocks$Text" 42 y_Rul_endOfBlock.2.1 ∈ kv_tb := kv_tb_in (List.mem_of_getElem? (i := 305) (by decide +kernel)) rfl
theorem ls_Txt_42 : kv_LV "CutBlocks$Text" 42 y_Rul_endOfBlock 3 1 := ⟨lb_Rul_endOfBlock, Or.inl wm_Txt_42, win_Rul_endOfBlock, (cR1, cT1, 7), rfl, wl_Rul_endOfBlock⟩
theorem wm_Txt_48 : Cond.methodLink "CutBlocks$Text" 48 y_Row_close.2.1 ∈ kv_tb := kv_tb_in (List.mem_of_getElem? (i := 327) (by decide +kernel)) rfl
theorem ls_Txt_48 : kv_LV "CutBlocks$Text" 48 y_Row_close 1 0 := ⟨lb_Row_close, Or.inl wm_Txt_48, win_Row_close, (cR0, cT0, 6), rfl, wl_Row_close⟩
theorem wm_Txt_52 : Cond.methodLink "CutBlocks$Text" 52 y_Txt_cutBy.2.1 ∈ kv_tb := kv_tb_in (List.mem_of_getElem? (i := 388) (by decide +kernel)) rfl
theorem ls_Txt_52 : kv_LV "CutBlocks$Text" 52 y_Txt_cutBy 1 4 := ⟨lb_Txt_cutBy, Or.inl wm_Txt_52, win_Txt_cutBy, (cR4, cT4, 4), rfl, wl_Txt_cutBy⟩
theorem wm_Txt_56 : Cond.methodLink "CutBlocks$Text" 56 y_Row_index.2.1 ∈ kv_tb := kv_tb_in (List.mem_of_getElem? (i := 389) (by decide +kernel)) rfl
theorem ls_Txt_56 : kv_LV "CutBlocks$Text" 56 y_Row_index 0 0 := ⟨lb_Row_index, Or.inl wm_Txt_56, win_Row_index, (cR0, cT0, 6), rfl, wl_Row_index⟩
theorem wm_Txt_59 : Cond.methodLink "CutBlocks$Text" 59 ⟨"java/lang/System", "arraycopy", "(Ljava/lang/Object;ILjava/lang/Object;II)V"⟩ ∈ kv_tb := kv_tb_in (List.mem_of_getElem? (i := 240) (by decide +kernel)) rfl
theorem wm_Txt_65 : Cond.methodLink "CutBlocks$Text" 65 y_Txt_changedTo.2.1 ∈ kv_tb := kv_tb_in (List.mem_of_getElem? (i := 243) (by decide +kernel)) rfl
theorem ls_Txt_65 : kv_LV "CutBlocks$Text" 65 y_Txt_changedTo 1 4 := ⟨lb_Txt_changedTo, Or.inl wm_Txt_65, win_Txt_changedTo, (cR4, cT4, 4), rfl, wl_Txt_changedTo⟩
theorem wm_Txt_70 : Cond.methodLink "CutBlocks$Text" 70 y_Txt_forgetCuts.2.1 ∈ kv_tb := kv_tb_in (List.mem_of_getElem? (i := 247) (by decide +kernel)) rfl
theorem ls_Txt_70 : kv_LV "CutBlocks$Text" 70 y_Txt_forgetCuts 0 4 := ⟨lb_Txt_forgetCuts, Or.inl wm_Txt_70, win_Txt_forgetCuts, (cR4, cT4, 4), rfl, wl_Txt_forgetCuts⟩
theorem wm_Law_9 : Cond.methodLink "CutBlocksLaw" 9 y_Cb_init.2.1 ∈ kv_tb := kv_tb_in (List.mem_of_getElem? (i := 41) (by decide +kernel)) rfl
theorem ls_Law_9 : kv_LI "CutBlocksLaw" 9 y_Cb_init 0 := ⟨lb_Cb_init, Or.inl wm_Law_9, win_Cb_init, rfl, rfl⟩
theorem wm_Law_12 : Cond.methodLink "CutBlocksLaw" 12 y_Md_init.2.1 ∈ kv_tb := kv_tb_in (List.mem_of_getElem? (i := 533) (by decide +kernel)) rfl
theorem ls_Law_12 : kv_LI "CutBlocksLaw" 12 y_Md_init 0 := ⟨lb_Md_init, Or.inl wm_Law_12, win_Md_init, rfl, rfl⟩
theorem wm_Law_13 : Cond.methodLink "CutBlocksLaw" 13 y_Cb_seed.2.1 ∈ kv_tb := kv_tb_in (List.mem_of_getElem? (i := 205) (by decide +kernel)) rfl
theorem ls_Law_13 : kv_LV "CutBlocksLaw" 13 y_Cb_seed 1 5 := ⟨lb_Cb_seed, Or.inl wm_Law_13, win_Cb_seed, (cR5, cT5, 3), rfl, wl_Cb_seed⟩
theorem wm_Law_17 : Cond.methodLink "CutBlocksLaw" 17 y_Md_seed.2.1 ∈ kv_tb := kv_tb_in (List.mem_of_getElem? (i := 617) (by decide +kernel)) rfl
theorem ls_Law_17 : kv_LV "CutBlocksLaw" 17 y_Md_seed 1 6 := ⟨lb_Md_seed, Or.inl wm_Law_17, win_Md_seed, (cR6, cT6, 24), rfl, wl_Md_seed⟩
theorem wm_Law_18 : Cond.methodLink "CutBlocksLaw" 18 y_Cb_rule.2.1 ∈ kv_tb := kv_tb_in (List.mem_of_getElem? (i := 218) (by decide +kernel)) rfl
theorem ls_Law_18 : kv_LV "CutBlocksLaw" 18 y_Cb_rule 6 5 := ⟨lb_Cb_rule, Or.inl wm_Law_18, win_Cb_rule, (cR5, cT5, 3), rfl, wl_Cb_rule⟩
theorem wm_Law_22 : Cond.methodLink "CutBlocksLaw" 22 y_Md_rule.2.1 ∈ kv_tb := kv_tb_in (List.mem_of_getElem? (i := 621) (by decide +kernel)) rfl
theorem ls_Law_22 : kv_LV "CutBlocksLaw" 22 y_Md_rule 6 6 := ⟨lb_Md_rule, Or.inl wm_Law_22, win_Md_rule, (cR6, cT6, 24), rfl, wl_Md_rule⟩
theorem wm_Law_23 : Cond.methodLink "CutBlocksLaw" 23 y_Cb_add.2.1 ∈ kv_tb := kv_tb_in (List.mem_of_getElem? (i := 226) (by decide +kernel)) rfl
theorem ls_Law_23 : kv_LV "CutBlocksLaw" 23 y_Cb_add 2 5 := ⟨lb_Cb_add, Or.inl wm_Law_23, win_Cb_add, (cR5, cT5, 3), rfl, wl_Cb_add⟩
theorem wm_Law_27 : Cond.methodLink "CutBlocksLaw" 27 y_Md_add.2.1 ∈ kv_tb := kv_tb_in (List.mem_of_getElem? (i := 628) (by decide +kernel)) rfl
theorem ls_Law_27 : kv_LV "CutBlocksLaw" 27 y_Md_add 2 6 := ⟨lb_Md_add, Or.inl wm_Law_27, win_Md_add, (cR6, cT6, 24), rfl, wl_Md_add⟩
theorem wm_Law_28 : Cond.methodLink "CutBlocksLaw" 28 y_Cb_fill.2.1 ∈ kv_tb := kv_tb_in (List.mem_of_getElem? (i := 248) (by decide +kernel)) rfl
theorem ls_Law_28 : kv_LV "CutBlocksLaw" 28 y_Cb_fill 4 5 := ⟨lb_Cb_fill, Or.inl wm_Law_28, win_Cb_fill, (cR5, cT5, 3), rfl, wl_Cb_fill⟩
theorem wm_Law_32 : Cond.methodLink "CutBlocksLaw" 32 y_Md_fill.2.1 ∈ kv_tb := kv_tb_in (List.mem_of_getElem? (i := 639) (by decide +kernel)) rfl
theorem ls_Law_32 : kv_LV "CutBlocksLaw" 32 y_Md_fill 4 6 := ⟨lb_Md_fill, Or.inl wm_Law_32, win_Md_fill, (cR6, cT6, 24), rfl, wl_Md_fill⟩
theorem wm_Law_33 : Cond.methodLink "CutBlocksLaw" 33 y_Cb_insert.2.1 ∈ kv_tb := kv_tb_in (List.mem_of_getElem? (i := 257) (by decide +kernel)) rfl
theorem ls_Law_33 : kv_LV "CutBlocksLaw" 33 y_Cb_insert 3 5 := ⟨lb_Cb_insert, Or.inl wm_Law_33, win_Cb_insert, (cR5, cT5, 3), rfl, wl_Cb_insert⟩
theorem wm_Law_37 : Cond.methodLink "CutBlocksLaw" 37 y_Md_insert.2.1 ∈ kv_tb := kv_tb_in (List.mem_of_getElem? (i := 644) (by decide +kernel)) rfl
theorem ls_Law_37 : kv_LV "CutBlocksLaw" 37 y_Md_insert 3 6 := ⟨lb_Md_insert, Or.inl wm_Law_37, win_Md_insert, (cR6, cT6, 24), rfl, wl_Md_insert⟩
theorem wm_Law_38 : Cond.methodLink "CutBlocksLaw" 38 y_Cb_remove.2.1 ∈ kv_tb := kv_tb_in (List.mem_of_getElem? (i := 261) (by decide +kernel)) rfl
theorem ls_Law_38 : kv_LV "CutBlocksLaw" 38 y_Cb_remove 3 5 := ⟨lb_Cb_remove, Or.inl wm_Law_38, win_Cb_remove, (cR5, cT5, 3), rfl, wl_Cb_remove⟩
theorem wm_Law_41 : Cond.methodLink "CutBlocksLaw" 41 y_Md_remove.2.1 ∈ kv_tb := kv_tb_in (List.mem_of_getElem? (i := 648) (by decide +kernel)) rfl
theorem ls_Law_41 : kv_LV "CutBlocksLaw" 41 y_Md_remove 3 6 := ⟨lb_Md_remove, Or.inl wm_Law_41, win_Md_remove, (cR6, cT6, 24), rfl, wl_Md_remove⟩
theorem wm_Law_42 : Cond.methodLink "CutBlocksLaw" 42 y_Cb_copy.2.1 ∈ kv_tb := kv_tb_in (List.mem_of_getElem? (i := 269) (by decide +kernel)) rfl
theorem ls_Law_42 : kv_LV "CutBlocksLaw" 42 y_Cb_copy 2 5 := ⟨lb_Cb_copy, Or.inl wm_Law_42, win_Cb_copy, (cR5, cT5, 3), rfl, wl_Cb_copy⟩
theorem wm_Law_45 : Cond.methodLink "CutBlocksLaw" 45 y_Md_copy.2.1 ∈ kv_tb := kv_tb_in (List.mem_of_getElem? (i := 652) (by decide +kernel)) rfl
theorem ls_Law_45 : kv_LV "CutBlocksLaw" 45 y_Md_copy 2 6 := ⟨lb_Md_copy, Or.inl wm_Law_45, win_Md_copy, (cR6, cT6, 24), rfl, wl_Md_copy⟩
theorem wm_Law_46 : Cond.methodLink "CutBlocksLaw" 46 y_Cb_size.2.1 ∈ kv_tb := kv_tb_in (List.mem_of_getElem? (i := 277) (by decide +kernel)) rfl
theorem ls_Law_46 : kv_LV "CutBlocksLaw" 46 y_Cb_size 1 5 := ⟨lb_Cb_size, Or.inl wm_Law_46, win_Cb_size, (cR5, cT5, 3), rfl, wl_Cb_size⟩
theorem wm_Law_49 : Cond.methodLink "CutBlocksLaw" 49 y_Md_size.2.1 ∈ kv_tb := kv_tb_in (List.mem_of_getElem? (i := 656) (by decide +kernel)) rfl
theorem ls_Law_49 : kv_LV "CutBlocksLaw" 49 y_Md_size 1 6 := ⟨lb_Md_size, Or.inl wm_Law_49, win_Md_size, (cR6, cT6, 24), rfl, wl_Md_size⟩
theorem wm_Law_50 : Cond.methodLink "CutBlocksLaw" 50 y_Cb_byteAt.2.1 ∈ kv_tb := kv_tb_in (List.mem_of_getElem? (i := 281) (by decide +kernel)) rfl
theorem ls_Law_50 : kv_LV "CutBlocksLaw" 50 y_Cb_byteAt 2 5 := ⟨lb_Cb_byteAt, Or.inl wm_Law_50, win_Cb_byteAt, (cR5, cT5, 3), rfl, wl_Cb_byteAt⟩
theorem wm_Law_53 : Cond.methodLink "CutBlocksLaw" 53 y_Md_byteAt.2.1 ∈ kv_tb := kv_tb_in (List.mem_of_getElem? (i := 660) (by decide +kernel)) rfl
theorem ls_Law_53 : kv_LV "CutBlocksLaw" 53 y_Md_byteAt 2 6 := ⟨lb_Md_byteAt, Or.inl wm_Law_53, win_Md_byteAt, (cR6, cT6, 24), rfl, wl_Md_byteAt⟩
theorem wm_Law_54 : Cond.methodLink "CutBlocksLaw" 54 y_Cb_blocks.2.1 ∈ kv_tb := kv_tb_in (List.mem_of_getElem? (i := 289) (by decide +kernel)) rfl
theorem ls_Law_54 : kv_LV "CutBlocksLaw" 54 y_Cb_blocks 1 5 := ⟨lb_Cb_blocks, Or.inl wm_Law_54, win_Cb_blocks, (cR5, cT5, 3), rfl, wl_Cb_blocks⟩
theorem wm_Law_57 : Cond.methodLink "CutBlocksLaw" 57 y_Md_blocks.2.1 ∈ kv_tb := kv_tb_in (List.mem_of_getElem? (i := 664) (by decide +kernel)) rfl
theorem ls_Law_57 : kv_LV "CutBlocksLaw" 57 y_Md_blocks 1 6 := ⟨lb_Md_blocks, Or.inl wm_Law_57, win_Md_blocks, (cR6, cT6, 24), rfl, wl_Md_blocks⟩
theorem wm_Law_58 : Cond.methodLink "CutBlocksLaw" 58 y_Cb_block.2.1 ∈ kv_tb := kv_tb_in (List.mem_of_getElem? (i := 331) (by decide +kernel)) rfl
theorem ls_Law_58 : kv_LV "CutBlocksLaw" 58 y_Cb_block 3 5 := ⟨lb_Cb_block, Or.inl wm_Law_58, win_Cb_block, (cR5, cT5, 3), rfl, wl_Cb_block⟩
theorem wm_Law_61 : Cond.methodLink "CutBlocksLaw" 61 y_Md_block.2.1 ∈ kv_tb := kv_tb_in (List.mem_of_getElem? (i := 686) (by decide +kernel)) rfl
theorem ls_Law_61 : kv_LV "CutBlocksLaw" 61 y_Md_block 3 6 := ⟨lb_Md_block, Or.inl wm_Law_61, win_Md_block, (cR6, cT6, 24), rfl, wl_Md_block⟩
theorem wm_Law_62 : Cond.methodLink "CutBlocksLaw" 62 y_Cb_digest.2.1 ∈ kv_tb := kv_tb_in (List.mem_of_getElem? (i := 343) (by decide +kernel)) rfl
theorem ls_Law_62 : kv_LV "CutBlocksLaw" 62 y_Cb_digest 3 5 := ⟨lb_Cb_digest, Or.inl wm_Law_62, win_Cb_digest, (cR5, cT5, 3), rfl, wl_Cb_digest⟩
theorem wm_Law_66 : Cond.methodLink "CutBlocksLaw" 66 y_Md_digest.2.1 ∈ kv_tb := kv_tb_in (List.mem_of_getElem? (i := 694) (by decide +kernel)) rfl
theorem ls_Law_66 : kv_LV "CutBlocksLaw" 66 y_Md_digest 3 6 := ⟨lb_Md_digest, Or.inl wm_Law_66, win_Md_digest, (cR6, cT6, 24), rfl, wl_Md_digest⟩
theorem wm_Law_67 : Cond.methodLink "CutBlocksLaw" 67 y_Cb_hash.2.1 ∈ kv_tb := kv_tb_in (List.mem_of_getElem? (i := 364) (by decide +kernel)) rfl
theorem ls_Law_67 : kv_LV "CutBlocksLaw" 67 y_Cb_hash 2 5 := ⟨lb_Cb_hash, Or.inl wm_Law_67, win_Cb_hash, (cR5, cT5, 3), rfl, wl_Cb_hash⟩
theorem wm_Law_71 : Cond.methodLink "CutBlocksLaw" 71 y_Md_hash.2.1 ∈ kv_tb := kv_tb_in (List.mem_of_getElem? (i := 707) (by decide +kernel)) rfl
theorem ls_Law_71 : kv_LV "CutBlocksLaw" 71 y_Md_hash 2 6 := ⟨lb_Md_hash, Or.inl wm_Law_71, win_Md_hash, (cR6, cT6, 24), rfl, wl_Md_hash⟩
theorem wm_Law_72 : Cond.methodLink "CutBlocksLaw" 72 y_Cb_alike.2.1 ∈ kv_tb := kv_tb_in (List.mem_of_getElem? (i := 376) (by decide +kernel)) rfl
theorem ls_Law_72 : kv_LV "CutBlocksLaw" 72 y_Cb_alike 3 5 := ⟨lb_Cb_alike, Or.inl wm_Law_72, win_Cb_alike, (cR5, cT5, 3), rfl, wl_Cb_alike⟩
theorem wm_Law_75 : Cond.methodLink "CutBlocksLaw" 75 y_Md_alike.2.1 ∈ kv_tb := kv_tb_in (List.mem_of_getElem? (i := 711) (by decide +kernel)) rfl
theorem ls_Law_75 : kv_LV "CutBlocksLaw" 75 y_Md_alike 3 6 := ⟨lb_Md_alike, Or.inl wm_Law_75, win_Md_alike, (cR6, cT6, 24), rfl, wl_Md_alike⟩
theorem wm_Law_76 : Cond.methodLink "CutBlocksLaw" 76 y_Cb_keep.2.1 ∈ kv_tb := kv_tb_in (List.mem_of_getElem? (i := 426) (by decide +kernel)) rfl
theorem ls_Law_76 : kv_LV "CutBlocksLaw" 76 y_Cb_keep 1 5 := ⟨lb_Cb_keep, Or.inl wm_Law_76, win_Cb_keep, (cR5, cT5, 3), rfl, wl_Cb_keep⟩
theorem wm_Law_79 : Cond.methodLink "CutBlocksLaw" 79 y_Md_keep.2.1 ∈ kv_tb := kv_tb_in (List.mem_of_getElem? (i := 722) (by decide +kernel)) rfl
theorem ls_Law_79 : kv_LV "CutBlocksLaw" 79 y_Md_keep 1 6 := ⟨lb_Md_keep, Or.inl wm_Law_79, win_Md_keep, (cR6, cT6, 24), rfl, wl_Md_keep⟩
theorem wm_Law_80 : Cond.methodLink "CutBlocksLaw" 80 y_Cb_drop.2.1 ∈ kv_tb := kv_tb_in (List.mem_of_getElem? (i := 469) (by decide +kernel)) rfl
theorem ls_Law_80 : kv_LV "CutBlocksLaw" 80 y_Cb_drop 1 5 := ⟨lb_Cb_drop, Or.inl wm_Law_80, win_Cb_drop, (cR5, cT5, 3), rfl, wl_Cb_drop⟩
theorem wm_Law_83 : Cond.methodLink "CutBlocksLaw" 83 y_Md_drop.2.1 ∈ kv_tb := kv_tb_in (List.mem_of_getElem? (i := 734) (by decide +kernel)) rfl
theorem ls_Law_83 : kv_LV "CutBlocksLaw" 83 y_Md_drop 1 6 := ⟨lb_Md_drop, Or.inl wm_Law_83, win_Md_drop, (cR6, cT6, 24), rfl, wl_Md_drop⟩
theorem wm_Law_84 : Cond.methodLink "CutBlocksLaw" 84 y_Cb_restore.2.1 ∈ kv_tb := kv_tb_in (List.mem_of_getElem? (i := 481) (by decide +kernel)) rfl
theorem ls_Law_84 : kv_LV "CutBlocksLaw" 84 y_Cb_restore 2 5 := ⟨lb_Cb_restore, Or.inl wm_Law_84, win_Cb_restore, (cR5, cT5, 3), rfl, wl_Cb_restore⟩
theorem wm_Law_87 : Cond.methodLink "CutBlocksLaw" 87 y_Md_restore.2.1 ∈ kv_tb := kv_tb_in (List.mem_of_getElem? (i := 746) (by decide +kernel)) rfl
theorem ls_Law_87 : kv_LV "CutBlocksLaw" 87 y_Md_restore 2 6 := ⟨lb_Md_restore, Or.inl wm_Law_87, win_Md_restore, (cR6, cT6, 24), rfl, wl_Md_restore⟩
theorem wm_Law_88 : Cond.methodLink "CutBlocksLaw" 88 y_Cb_told.2.1 ∈ kv_tb := kv_tb_in (List.mem_of_getElem? (i := 491) (by decide +kernel)) rfl
theorem ls_Law_88 : kv_LV "CutBlocksLaw" 88 y_Cb_told 2 5 := ⟨lb_Cb_told, Or.inl wm_Law_88, win_Cb_told, (cR5, cT5, 3), rfl, wl_Cb_told⟩
theorem wm_Law_91 : Cond.methodLink "CutBlocksLaw" 91 y_Md_told.2.1 ∈ kv_tb := kv_tb_in (List.mem_of_getElem? (i := 750) (by decide +kernel)) rfl
theorem ls_Law_91 : kv_LV "CutBlocksLaw" 91 y_Md_told 2 6 := ⟨lb_Md_told, Or.inl wm_Law_91, win_Md_told, (cR6, cT6, 24), rfl, wl_Md_told⟩
theorem wm_Law_92 : Cond.methodLink "CutBlocksLaw" 92 y_Cb_uses.2.1 ∈ kv_tb := kv_tb_in (List.mem_of_getElem? (i := 495) (by decide +kernel)) rfl
theorem ls_Law_92 : kv_LV "CutBlocksLaw" 92 y_Cb_uses 2 5 := ⟨lb_Cb_uses, Or.inl wm_Law_92, win_Cb_uses, (cR5, cT5, 3), rfl, wl_Cb_uses⟩
theorem wm_Law_95 : Cond.methodLink "CutBlocksLaw" 95 y_Md_uses.2.1 ∈ kv_tb := kv_tb_in (List.mem_of_getElem? (i := 758) (by decide +kernel)) rfl
theorem ls_Law_95 : kv_LV "CutBlocksLaw" 95 y_Md_uses 2 6 := ⟨lb_Md_uses, Or.inl wm_Law_95, win_Md_uses, (cR6, cT6, 24), rfl, wl_Md_uses⟩
theorem wm_Law_96 : Cond.methodLink "CutBlocksLaw" 96 y_Cb_kept.2.1 ∈ kv_tb := kv_tb_in (List.mem_of_getElem? (i := 503) (by decide +kernel)) rfl
theorem ls_Law_96 : kv_LV "CutBlocksLaw" 96 y_Cb_kept 1 5 := ⟨lb_Cb_kept, Or.inl wm_Law_96, win_Cb_kept, (cR5, cT5, 3), rfl, wl_Cb_kept⟩
theorem wm_Law_99 : Cond.methodLink "CutBlocksLaw" 99 y_Md_kept.2.1 ∈ kv_tb := kv_tb_in (List.mem_of_getElem? (i := 762) (by decide +kernel)) rfl
theorem ls_Law_99 : kv_LV "CutBlocksLaw" 99 y_Md_kept 1 6 := ⟨lb_Md_kept, Or.inl wm_Law_99, win_Md_kept, (cR6, cT6, 24), rfl, wl_Md_kept⟩
theorem wm_Md_1 : Cond.methodLink "CutBlocksModel" 1 ⟨"java/lang/Object", "<init>", "()V"⟩ ∈ kv_tb := kv_tb_in (List.mem_of_getElem? (i := 536) (by decide +kernel)) rfl
theorem wm_Md_63 : Cond.methodLink "CutBlocksModel" 63 y_Md_layTable.2.1 ∈ kv_tb := kv_tb_in (List.mem_of_getElem? (i := 537) (by decide +kernel)) rfl
theorem ls_Md_63 : kv_LV "CutBlocksModel" 63 y_Md_layTable 1 6 := ⟨lb_Md_layTable, Or.inl wm_Md_63, win_Md_layTable, (cR6, cT6, 24), rfl, wl_Md_layTable⟩
theorem wm_Md_72 : Cond.methodLink "CutBlocksModel" 72 y_Md_in.2.1 ∈ kv_tb := kv_tb_in (List.mem_of_getElem? (i := 625) (by decide +kernel)) rfl
theorem ls_Md_72 : kv_LS "CutBlocksModel" 72 y_Md_in 3 := ⟨lb_Md_in, Or.inl wm_Md_72, wst_Md_in⟩
theorem wm_Md_82 : Cond.methodLink "CutBlocksModel" 82 y_Md_isText.2.1 ∈ kv_tb := kv_tb_in (List.mem_of_getElem? (i := 632) (by decide +kernel)) rfl
theorem ls_Md_82 : kv_LS "CutBlocksModel" 82 y_Md_isText 1 := ⟨lb_Md_isText, Or.inl wm_Md_82, wst_Md_isText⟩
theorem wm_Md_86 : Cond.methodLink "CutBlocksModel" 86 y_Md_insertAt.2.1 ∈ kv_tb := kv_tb_in (List.mem_of_getElem? (i := 635) (by decide +kernel)) rfl
theorem ls_Md_86 : kv_LV "CutBlocksModel" 86 y_Md_insertAt 3 6 := ⟨lb_Md_insertAt, Or.inl wm_Md_86, win_Md_insertAt, (cR6, cT6, 24), rfl, wl_Md_insertAt⟩
theorem wm_Md_91 : Cond.methodLink "CutBlocksModel" 91 y_Md_turn.2.1 ∈ kv_tb := kv_tb_in (List.mem_of_getElem? (i := 680) (by decide +kernel)) rfl
theorem ls_Md_91 : kv_LS "CutBlocksModel" 91 y_Md_turn 2 := ⟨lb_Md_turn, Or.inl wm_Md_91, wst_Md_turn⟩
theorem wm_Md_95 : Cond.methodLink "CutBlocksModel" 95 y_Md_next.2.1 ∈ kv_tb := kv_tb_in (List.mem_of_getElem? (i := 676) (by decide +kernel)) rfl
theorem ls_Md_95 : kv_LV "CutBlocksModel" 95 y_Md_next 4 6 := ⟨lb_Md_next, Or.inl wm_Md_95, win_Md_next, (cR6, cT6, 24), rfl, wl_Md_next⟩
theorem wm_Md_99 : Cond.methodLink "CutBlocksModel" 99 y_Md_isMarked.2.1 ∈ kv_tb := kv_tb_in (List.mem_of_getElem? (i := 683) (by decide +kernel)) rfl
theorem ls_Md_99 : kv_LS "CutBlocksModel" 99 y_Md_isMarked 2 := ⟨lb_Md_isMarked, Or.inl wm_Md_99, wst_Md_isMarked⟩
theorem wm_Md_103 : Cond.methodLink "CutBlocksModel" 103 y_Md_longFrom.2.1 ∈ kv_tb := kv_tb_in (List.mem_of_getElem? (i := 672) (by decide +kernel)) rfl
theorem ls_Md_103 : kv_LV "CutBlocksModel" 103 y_Md_longFrom 2 6 := ⟨lb_Md_longFrom, Or.inl wm_Md_103, win_Md_longFrom, (cR6, cT6, 24), rfl, wl_Md_longFrom⟩
theorem wm_Md_106 : Cond.methodLink "CutBlocksModel" 106 y_Md_layCuts.2.1 ∈ kv_tb := kv_tb_in (List.mem_of_getElem? (i := 668) (by decide +kernel)) rfl
theorem ls_Md_106 : kv_LV "CutBlocksModel" 106 y_Md_layCuts 2 6 := ⟨lb_Md_layCuts, Or.inl wm_Md_106, win_Md_layCuts, (cR6, cT6, 24), rfl, wl_Md_layCuts⟩
theorem wm_Md_113 : Cond.methodLink "CutBlocksModel" 113 y_Md_isBlock.2.1 ∈ kv_tb := kv_tb_in (List.mem_of_getElem? (i := 690) (by decide +kernel)) rfl
theorem ls_Md_113 : kv_LV "CutBlocksModel" 113 y_Md_isBlock 2 6 := ⟨lb_Md_isBlock, Or.inl wm_Md_113, win_Md_isBlock, (cR6, cT6, 24), rfl, wl_Md_isBlock⟩
theorem wm_Md_125 : Cond.methodLink "CutBlocksModel" 125 y_Md_digestOf.2.1 ∈ kv_tb := kv_tb_in (List.mem_of_getElem? (i := 699) (by decide +kernel)) rfl
theorem ls_Md_125 : kv_LS "CutBlocksModel" 125 y_Md_digestOf 4 := ⟨lb_Md_digestOf, Or.inl wm_Md_125, wst_Md_digestOf⟩
theorem wm_Md_129 : Cond.methodLink "CutBlocksModel" 129 y_Md_isSame.2.1 ∈ kv_tb := kv_tb_in (List.mem_of_getElem? (i := 719) (by decide +kernel)) rfl
theorem ls_Md_129 : kv_LS "CutBlocksModel" 129 y_Md_isSame 5 := ⟨lb_Md_isSame, Or.inl wm_Md_129, wst_Md_isSame⟩
theorem wm_Md_136 : Cond.methodLink "CutBlocksModel" 136 y_Md_isLike.2.1 ∈ kv_tb := kv_tb_in (List.mem_of_getElem? (i := 715) (by decide +kernel)) rfl
theorem ls_Md_136 : kv_LV "CutBlocksModel" 136 y_Md_isLike 4 6 := ⟨lb_Md_isLike, Or.inl wm_Md_136, win_Md_isLike, (cR6, cT6, 24), rfl, wl_Md_isLike⟩
theorem wm_Md_146 : Cond.methodLink "CutBlocksModel" 146 y_Md_find.2.1 ∈ kv_tb := kv_tb_in (List.mem_of_getElem? (i := 726) (by decide +kernel)) rfl
theorem ls_Md_146 : kv_LV "CutBlocksModel" 146 y_Md_find 2 6 := ⟨lb_Md_find, Or.inl wm_Md_146, win_Md_find, (cR6, cT6, 24), rfl, wl_Md_find⟩
theorem wm_Md_149 : Cond.methodLink "CutBlocksModel" 149 y_Md_giveUp.2.1 ∈ kv_tb := kv_tb_in (List.mem_of_getElem? (i := 730) (by decide +kernel)) rfl
theorem ls_Md_149 : kv_LV "CutBlocksModel" 149 y_Md_giveUp 4 6 := ⟨lb_Md_giveUp, Or.inl wm_Md_149, win_Md_giveUp, (cR6, cT6, 24), rfl, wl_Md_giveUp⟩
theorem wm_Md_152 : Cond.methodLink "CutBlocksModel" 152 y_Md_isSnapshot.2.1 ∈ kv_tb := kv_tb_in (List.mem_of_getElem? (i := 738) (by decide +kernel)) rfl
theorem ls_Md_152 : kv_LV "CutBlocksModel" 152 y_Md_isSnapshot 1 6 := ⟨lb_Md_isSnapshot, Or.inl wm_Md_152, win_Md_isSnapshot, (cR6, cT6, 24), rfl, wl_Md_isSnapshot⟩
theorem wm_Md_155 : Cond.methodLink "CutBlocksModel" 155 y_Md_takeOut.2.1 ∈ kv_tb := kv_tb_in (List.mem_of_getElem? (i := 742) (by decide +kernel)) rfl
theorem ls_Md_155 : kv_LV "CutBlocksModel" 155 y_Md_takeOut 1 6 := ⟨lb_Md_takeOut, Or.inl wm_Md_155, win_Md_takeOut, (cR6, cT6, 24), rfl, wl_Md_takeOut⟩
theorem wm_Md_158 : Cond.methodLink "CutBlocksModel" 158 y_Md_bytesOf.2.1 ∈ kv_tb := kv_tb_in (List.mem_of_getElem? (i := 754) (by decide +kernel)) rfl
theorem ls_Md_158 : kv_LV "CutBlocksModel" 158 y_Md_bytesOf 1 6 := ⟨lb_Md_bytesOf, Or.inl wm_Md_158, win_Md_bytesOf, (cR6, cT6, 24), rfl, wl_Md_bytesOf⟩
theorem wm_Md_164 : Cond.methodLink "CutBlocksModel" 164 y_Md_keyOf.2.1 ∈ kv_tb := kv_tb_in (List.mem_of_getElem? (i := 770) (by decide +kernel)) rfl
theorem ls_Md_164 : kv_LV "CutBlocksModel" 164 y_Md_keyOf 1 6 := ⟨lb_Md_keyOf, Or.inl wm_Md_164, win_Md_keyOf, (cR6, cT6, 24), rfl, wl_Md_keyOf⟩
theorem wm_Md_168 : Cond.methodLink "CutBlocksModel" 168 y_Md_keysTold.2.1 ∈ kv_tb := kv_tb_in (List.mem_of_getElem? (i := 766) (by decide +kernel)) rfl
theorem ls_Md_168 : kv_LV "CutBlocksModel" 168 y_Md_keysTold 1 6 := ⟨lb_Md_keysTold, Or.inl wm_Md_168, win_Md_keysTold, (cR6, cT6, 24), rfl, wl_Md_keysTold⟩
theorem wk_Row_34 : Cond.constant "CutBlocks$Row" 34 (-2128831035) ∈ kv_tb := kv_tb_in (List.mem_of_getElem? (i := 352) (by decide +kernel)) rfl
theorem wk_Row_35 : Cond.constant "CutBlocks$Row" 35 (16777619) ∈ kv_tb := kv_tb_in (List.mem_of_getElem? (i := 353) (by decide +kernel)) rfl
theorem wk_Row_36 : Cond.constant "CutBlocks$Row" 36 (65521) ∈ kv_tb := kv_tb_in (List.mem_of_getElem? (i := 362) (by decide +kernel)) rfl
theorem wk_Rul_42 : Cond.constant "CutBlocks$Rules" 42 (1664525) ∈ kv_tb := kv_tb_in (List.mem_of_getElem? (i := 57) (by decide +kernel)) rfl
theorem wk_Rul_43 : Cond.constant "CutBlocks$Rules" 43 (1013904223) ∈ kv_tb := kv_tb_in (List.mem_of_getElem? (i := 58) (by decide +kernel)) rfl
theorem wk_Txt_69 : Cond.constant "CutBlocks$Text" 69 (1103515245) ∈ kv_tb := kv_tb_in (List.mem_of_getElem? (i := 256) (by decide +kernel)) rfl
theorem wk_Md_70 : Cond.constant "CutBlocksModel" 70 (1664525) ∈ kv_tb := kv_tb_in (List.mem_of_getElem? (i := 541) (by decide +kernel)) rfl
theorem wk_Md_71 : Cond.constant "CutBlocksModel" 71 (1013904223) ∈ kv_tb := kv_tb_in (List.mem_of_getElem? (i := 542) (by decide +kernel)) rfl
theorem wk_Md_90 : Cond.constant "CutBlocksModel" 90 (1103515245) ∈ kv_tb := kv_tb_in (List.mem_of_getElem? (i := 643) (by decide +kernel)) rfl
theorem wk_Md_116 : Cond.constant "CutBlocksModel" 116 (-2128831035) ∈ kv_tb := kv_tb_in (List.mem_of_getElem? (i := 702) (by decide +kernel)) rfl
theorem wk_Md_117 : Cond.constant "CutBlocksModel" 117 (16777619) ∈ kv_tb := kv_tb_in (List.mem_of_getElem? (i := 703) (by decide +kernel)) rfl
theorem wk_Md_118 : Cond.constant "CutBlocksModel" 118 (65521) ∈ kv_tb := kv_tb_in (List.mem_of_getElem? (i := 704) (by decide +kernel)) rfl
theorem wk_Cb_100 : Cond.constantLong "CutBlocks" 100 (-1) ∈ kv_tb := kv_tb_in (List.mem_of_getElem? (i := 347) (by decide +kernel)) rfl
theorem wk_Cb_177 : Cond.constantLong "CutBlocks" 177 (4294967295) ∈ kv_tb := kv_tb_in (List.mem_of_getElem? (i := 357) (by decide +kernel)) rfl
theorem wk_Row_37 : Cond.constantLong "CutBlocks$Row" 37 (65536) ∈ kv_tb := kv_tb_in (List.mem_of_getElem? (i := 363) (by decide +kernel)) rfl
theorem wk_Md_119 : Cond.constantLong "CutBlocksModel" 119 (4294967295) ∈ kv_tb := kv_tb_in (List.mem_of_getElem? (i := 705) (by decide +kernel)) rfl
theorem wk_Md_121 : Cond.constantLong "CutBlocksModel" 121 (65536) ∈ kv_tb := kv_tb_in (List.mem_of_getElem? (i := 706) (by decide +kernel)) rfl
theorem wk_Md_123 : Cond.constantLong "CutBlocksModel" 123 (-1) ∈ kv_tb := kv_tb_in (List.mem_of_getElem? (i := 698) (by decide +kernel)) rfl
theorem wk_Md_162 : Cond.constantLong "CutBlocksModel" 162 (255) ∈ kv_tb := kv_tb_in (List.mem_of_getElem? (i := 774) (by decide +kernel)) rfl
theorem wn_Cb_7 : Cond.classLink "CutBlocks" 7 "CutBlocks$Rules" ∈ kv_tb := kv_tb_in (List.mem_of_getElem? (i := 47) (by decide +kernel)) rfl
theorem nw_Cb_7 : kv_NW "CutBlocks" 7 1 7 := ⟨cR1, cT1, cY1, rfl, cU1, cP1, fun j hj => match j, hj with | 0, _ => rfl | 1, _ => rfl | 2, _ => rfl | 3, _ => rfl | 4, _ => rfl | 5, _ => rfl | 6, _ => rfl | j + 7, h => absurd h (by omega), wn_Cb_7, (kv_tb_in (List.mem_of_getElem? (i := 48) (by decide +kernel)) rfl), wi_CutBlocks_Rules⟩
theorem wn_Cb_16 : Cond.classLink "CutBlocks" 16 "CutBlocks$Text" ∈ kv_tb := kv_tb_in (List.mem_of_getElem? (i := 86) (by decide +kernel)) rfl
theorem nw_Cb_16 : kv_NW "CutBlocks" 16 4 4 := ⟨cR4, cT4, cY4, rfl, cU4, cP4, fun j hj => match j, hj with | 0, _ => rfl | 1, _ => rfl | 2, _ => rfl | 3, _ => rfl | j + 4, h => absurd h (by omega), wn_Cb_16, (kv_tb_in (List.mem_of_getElem? (i := 88) (by decide +kernel)) rfl), wi_CutBlocks_Text⟩
theorem wn_Cb_23 : Cond.classLink "CutBlocks" 23 "CutBlocks$Store" ∈ kv_tb := kv_tb_in (List.mem_of_getElem? (i := 149) (by decide +kernel)) rfl
theorem nw_Cb_23 : kv_NW "CutBlocks" 23 3 4 := ⟨cR3, cT3, cY3, rfl, cU3, cP3, fun j hj => match j, hj with | 0, _ => rfl | 1, _ => rfl | 2, _ => rfl | 3, _ => rfl | j + 4, h => absurd h (by omega), wn_Cb_23, (kv_tb_in (List.mem_of_getElem? (i := 150) (by decide +kernel)) rfl), wi_CutBlocks_Store⟩
theorem wn_Sto_9 : Cond.classLink "CutBlocks$Store" 9 "CutBlocks$Row" ∈ kv_tb := kv_tb_in (List.mem_of_getElem? (i := 155) (by decide +kernel)) rfl
theorem nw_Sto_9 : kv_NW "CutBlocks$Store" 9 0 6 := ⟨cR0, cT0, cY0, rfl, cU0, cP0, fun j hj => match j, hj with | 0, _ => rfl | 1, _ => rfl | 2, _ => rfl | 3, _ => rfl | 4, _ => rfl | 5, _ => rfl | j + 6, h => absurd h (by omega), wn_Sto_9, (kv_tb_in (List.mem_of_getElem? (i := 94) (by decide +kernel)) rfl), wi_CutBlocks_Row⟩
theorem wn_Sto_27 : Cond.classLink "CutBlocks$Store" 27 "CutBlocks$Snapshot" ∈ kv_tb := kv_tb_in (List.mem_of_getElem? (i := 157) (by decide +kernel)) rfl
theorem nw_Sto_27 : kv_NW "CutBlocks$Store" 27 2 4 := ⟨cR2, cT2, cY2, rfl, cU2, cP2, fun j hj => match j, hj with | 0, _ => rfl | 1, _ => rfl | 2, _ => rfl | 3, _ => rfl | j + 4, h => absurd h (by omega), wn_Sto_27, (kv_tb_in (List.mem_of_getElem? (i := 159) (by decide +kernel)) rfl), wi_CutBlocks_Snapshot⟩
theorem wn_Txt_9 : Cond.classLink "CutBlocks$Text" 9 "CutBlocks$Row" ∈ kv_tb := kv_tb_in (List.mem_of_getElem? (i := 93) (by decide +kernel)) rfl
theorem nw_Txt_9 : kv_NW "CutBlocks$Text" 9 0 6 := ⟨cR0, cT0, cY0, rfl, cU0, cP0, fun j hj => match j, hj with | 0, _ => rfl | 1, _ => rfl | 2, _ => rfl | 3, _ => rfl | 4, _ => rfl | 5, _ => rfl | j + 6, h => absurd h (by omega), wn_Txt_9, (kv_tb_in (List.mem_of_getElem? (i := 94) (by decide +kernel)) rfl), wi_CutBlocks_Row⟩
theorem wn_Law_7 : Cond.classLink "CutBlocksLaw" 7 "CutBlocks" ∈ kv_tb := kv_tb_in (List.mem_of_getElem? (i := 39) (by decide +kernel)) rfl
theorem nw_Law_7 : kv_NW "CutBlocksLaw" 7 5 3 := ⟨cR5, cT5, cY5, rfl, cU5, cP5, fun j hj => match j, hj with | 0, _ => rfl | 1, _ => rfl | 2, _ => rfl | j + 3, h => absurd h (by omega), wn_Law_7, (kv_tb_in (List.mem_of_getElem? (i := 40) (by decide +kernel)) rfl), wi_CutBlocks⟩
theorem wn_Law_10 : Cond.classLink "CutBlocksLaw" 10 "CutBlocksModel" ∈ kv_tb := kv_tb_in (List.mem_of_getElem? (i := 531) (by decide +kernel)) rfl
theorem nw_Law_10 : kv_NW "CutBlocksLaw" 10 6 24 := ⟨cR6, cT6, cY6, rfl, cU6, cP6, fun j hj => match j, hj with | 0, _ => rfl | 1, _ => rfl | 2, _ => rfl | 3, _ => rfl | 4, _ => rfl | 5, _ => rfl | 6, _ => rfl | 7, _ => rfl | 8, _ => rfl | 9, _ => rfl | 10, _ => rfl | 11, _ => rfl | 12, _ => rfl | 13, _ => rfl | 14, _ => rfl | 15, _ => rfl | 16, _ => rfl | 17, _ => rfl | 18, _ => rfl | 19, _ => rfl | 20, _ => rfl | 21, _ => rfl | 22, _ => rfl | 23, _ => rfl | j + 24, h => absurd h (by omega), wn_Law_10, (kv_tb_in (List.mem_of_getElem? (i := 532) (by decide +kernel)) rfl), wi_CutBlocksModel⟩
theorem wa_int : Cond.arrayClass .int ∈ kv_tb := kv_tb_in (List.mem_of_getElem? (i := 85) (by decide +kernel)) rfl
theorem wa_bool : Cond.arrayClass .boolean ∈ kv_tb := kv_tb_in (List.mem_of_getElem? (i := 616) (by decide +kernel)) rfl
theorem wo_in : Cond.instanceMethod objectInit ∈ kv_tb := kv_tb_in (List.mem_of_getElem? (i := 45) (by decide +kernel)) rfl
set_option maxRecDepth 20000 in
theorem wo_code : Cond.code objectInit ⟨#[0xb1]⟩ 1 none ∈ kv_tb := kv_tb_in (List.mem_append_right _ (List.mem_append_left _ (List.mem_of_getElem? (i := 18) rfl : _ ∈ tables_1_1))) rfl
theorem wx_min_s : Cond.static Lib.Math.min.name ∈ kv_tb := kv_tb_in (List.mem_of_getElem? (i := 420) (by decide +kernel)) rfl
set_option maxRecDepth 20000 in
theorem wx_min_c : Cond.code Lib.Math.min.name Lib.Math.min.code 2 (some .int) ∈ kv_tb := kv_tb_in (List.mem_append_right _ (List.mem_append_right _ (List.mem_append_left _ (List.mem_of_getElem? (i := 153) rfl : _ ∈ tables_1_2)))) rfl
theorem wx_max_s : Cond.static Lib.Math.max.name ∈ kv_tb := kv_tb_in (List.mem_of_getElem? (i := 529) (by decide +kernel)) rfl
set_option maxRecDepth 20000 in
theorem wx_max_c : Cond.code Lib.Math.max.name Lib.Math.max.code 2 (some .int) ∈ kv_tb := kv_tb_in (List.mem_append_right _ (List.mem_append_right _ (List.mem_append_right _ (List.mem_append_left _ (List.mem_of_getElem? (i := 22) rfl : _ ∈ tables_1_3))))) rfl
theorem wy_n : Cond.native arraycopyName ∈ kv_tb := kv_tb_in (List.mem_of_getElem? (i := 242) (by decide +kernel)) rfl
theorem wy_s : Cond.static arraycopyName ∈ kv_tb := kv_tb_in (List.mem_of_getElem? (i := 241) (by decide +kernel)) rfl
end
