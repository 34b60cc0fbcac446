section
def lw_okq (q : MethodName × Nat) : Prop := (q.1.cls ≠ "java/lang/invoke/MethodHandle" ∧ q.1.cls ≠ "java/lang/invoke/VarHandle") ∧ Cond.instantiable q.1.cls q.2 ∈ tables_1 ∧ Cond.privateMethod q.1 ∈ tables_1 ∧ Cond.instanceMethod q.1 ∈ tables_1
theorem lw_p0 : lw_okq (⟨"CutBlocks", "forgetAllCuts", "()V"⟩, 3) := ⟨⟨by decide +kernel, by decide +kernel⟩, List.mem_of_getElem? (i := 12) (by decide +kernel), List.mem_of_getElem? (i := 183) (by decide +kernel), List.mem_of_getElem? (i := 184) (by decide +kernel)⟩
theorem lw_p1 : lw_okq (⟨"CutBlocks", "hasByte", "(II)Z"⟩, 3) := ⟨⟨by decide +kernel, by decide +kernel⟩, List.mem_of_getElem? (i := 12) (by decide +kernel), List.mem_of_getElem? (i := 258) (by decide +kernel), List.mem_of_getElem? (i := 259) (by decide +kernel)⟩
theorem lw_p2 : lw_okq (⟨"CutBlocks", "cutRow", "(I)LCutBlocks$Row;"⟩, 3) := ⟨⟨by decide +kernel, by decide +kernel⟩, List.mem_of_getElem? (i := 12) (by decide +kernel), List.mem_of_getElem? (i := 266) (by decide +kernel), List.mem_of_getElem? (i := 267) (by decide +kernel)⟩
theorem lw_p3 : lw_okq (⟨"CutBlocks$Rules", "numberWith", "(I[III)I"⟩, 7) := ⟨⟨by decide +kernel, by decide +kernel⟩, List.mem_of_getElem? (i := 20) (by decide +kernel), List.mem_of_getElem? (i := 282) (by decide +kernel), List.mem_of_getElem? (i := 283) (by decide +kernel)⟩
theorem lw_p4 : lw_okq (⟨"CutBlocks$Rules", "allowed", "(I)Z"⟩, 7) := ⟨⟨by decide +kernel, by decide +kernel⟩, List.mem_of_getElem? (i := 20) (by decide +kernel), List.mem_of_getElem? (i := 289) (by decide +kernel), List.mem_of_getElem? (i := 290) (by decide +kernel)⟩
theorem lw_p5 : lw_okq (⟨"CutBlocks$Rules", "marksAt", "(I)I"⟩, 7) := ⟨⟨by decide +kernel, by decide +kernel⟩, List.mem_of_getElem? (i := 20) (by decide +kernel), List.mem_of_getElem? (i := 293) (by decide +kernel), List.mem_of_getElem? (i := 294) (by decide +kernel)⟩
theorem lw_p6 : lw_okq (⟨"CutBlocks", "hasBlock", "(II)Z"⟩, 3) := ⟨⟨by decide +kernel, by decide +kernel⟩, List.mem_of_getElem? (i := 12) (by decide +kernel), List.mem_of_getElem? (i := 308) (by decide +kernel), List.mem_of_getElem? (i := 309) (by decide +kernel)⟩
theorem lw_p7 : lw_okq (⟨"CutBlocks", "indexedRow", "(I)LCutBlocks$Row;"⟩, 3) := ⟨⟨by decide +kernel, by decide +kernel⟩, List.mem_of_getElem? (i := 12) (by decide +kernel), List.mem_of_getElem? (i := 353) (by decide +kernel), List.mem_of_getElem? (i := 354) (by decide +kernel)⟩
theorem lw_p8 : lw_okq (⟨"CutBlocks$Store", "leastFree", "()I"⟩, 4) := ⟨⟨by decide +kernel, by decide +kernel⟩, List.mem_of_getElem? (i := 122) (by decide +kernel), List.mem_of_getElem? (i := 407) (by decide +kernel), List.mem_of_getElem? (i := 408) (by decide +kernel)⟩
theorem lw_p9 : lw_okq (⟨"CutBlocks$Store", "sweep", "()I"⟩, 4) := ⟨⟨by decide +kernel, by decide +kernel⟩, List.mem_of_getElem? (i := 122) (by decide +kernel), List.mem_of_getElem? (i := 418) (by decide +kernel), List.mem_of_getElem? (i := 419) (by decide +kernel)⟩
theorem lw_p10 : lw_okq (⟨"CutBlocks$Store", "renumber", "()V"⟩, 4) := ⟨⟨by decide +kernel, by decide +kernel⟩, List.mem_of_getElem? (i := 122) (by decide +kernel), List.mem_of_getElem? (i := 430) (by decide +kernel), List.mem_of_getElem? (i := 431) (by decide +kernel)⟩
theorem lw_p11 : lw_okq (⟨"CutBlocks$Store", "takeInNew", "(LCutBlocks$Row;I)I"⟩, 4) := ⟨⟨by decide +kernel, by decide +kernel⟩, List.mem_of_getElem? (i := 122) (by decide +kernel), List.mem_of_getElem? (i := 434) (by decide +kernel), List.mem_of_getElem? (i := 435) (by decide +kernel)⟩
theorem lw_p12 : lw_okq (⟨"CutBlocks$Store", "countPlaces", "(LCutBlocks$Snapshot;I)V"⟩, 4) := ⟨⟨by decide +kernel, by decide +kernel⟩, List.mem_of_getElem? (i := 122) (by decide +kernel), List.mem_of_getElem? (i := 438) (by decide +kernel), List.mem_of_getElem? (i := 439) (by decide +kernel)⟩
theorem lw_p13 : lw_okq (⟨"CutBlocks$Row", "chainLength", "(I)I"⟩, 6) := ⟨⟨by decide +kernel, by decide +kernel⟩, List.mem_of_getElem? (i := 66) (by decide +kernel), List.mem_of_getElem? (i := 493) (by decide +kernel), List.mem_of_getElem? (i := 494) (by decide +kernel)⟩
theorem lw_p14 : lw_okq (⟨"CutBlocksModel", "layTable", "(I)V"⟩, 24) := ⟨⟨by decide +kernel, by decide +kernel⟩, List.mem_of_getElem? (i := 504) (by decide +kernel), List.mem_of_getElem? (i := 510) (by decide +kernel), List.mem_of_getElem? (i := 511) (by decide +kernel)⟩
theorem lw_p15 : lw_okq (⟨"CutBlocksModel", "insertAt", "(III)I"⟩, 24) := ⟨⟨by decide +kernel, by decide +kernel⟩, List.mem_of_getElem? (i := 504) (by decide +kernel), List.mem_of_getElem? (i := 608) (by decide +kernel), List.mem_of_getElem? (i := 609) (by decide +kernel)⟩
def lw_privs_1 : List (MethodName × Nat) := [(⟨"CutBlocks", "forgetAllCuts", "()V"⟩, 3), (⟨"CutBlocks", "hasByte", "(II)Z"⟩, 3), (⟨"CutBlocks", "cutRow", "(I)LCutBlocks$Row;"⟩, 3), (⟨"CutBlocks$Rules", "numberWith", "(I[III)I"⟩, 7), (⟨"CutBlocks$Rules", "allowed", "(I)Z"⟩, 7), (⟨"CutBlocks$Rules", "marksAt", "(I)I"⟩, 7), (⟨"CutBlocks", "hasBlock", "(II)Z"⟩, 3), (⟨"CutBlocks", "indexedRow", "(I)LCutBlocks$Row;"⟩, 3), (⟨"CutBlocks$Store", "leastFree", "()I"⟩, 4), (⟨"CutBlocks$Store", "sweep", "()I"⟩, 4), (⟨"CutBlocks$Store", "renumber", "()V"⟩, 4), (⟨"CutBlocks$Store", "takeInNew", "(LCutBlocks$Row;I)I"⟩, 4), (⟨"CutBlocks$Store", "countPlaces", "(LCutBlocks$Snapshot;I)V"⟩, 4), (⟨"CutBlocks$Row", "chainLength", "(I)I"⟩, 6), (⟨"CutBlocksModel", "layTable", "(I)V"⟩, 24), (⟨"CutBlocksModel", "insertAt", "(III)I"⟩, 24)]
theorem lw_r1 : ∀ q ∈ lw_privs_1, lw_okq q := List.forall_mem_cons.mpr ⟨lw_p0, List.forall_mem_cons.mpr ⟨lw_p1, List.forall_mem_cons.mpr ⟨lw_p2, List.forall_mem_cons.mpr ⟨lw_p3, List.forall_mem_cons.mpr ⟨lw_p4, List.forall_mem_cons.mpr ⟨lw_p5, List.forall_mem_cons.mpr ⟨lw_p6, List.forall_mem_cons.mpr ⟨lw_p7, List.forall_mem_cons.mpr ⟨lw_p8, List.forall_mem_cons.mpr ⟨lw_p9, List.forall_mem_cons.mpr ⟨lw_p10, List.forall_mem_cons.mpr ⟨lw_p11, List.forall_mem_cons.mpr ⟨lw_p12, List.forall_mem_cons.mpr ⟨lw_p13, List.forall_mem_cons.mpr ⟨lw_p14, List.forall_mem_cons.mpr ⟨lw_p15, fun _ h => absurd h List.not_mem_nil⟩⟩⟩⟩⟩⟩⟩⟩⟩⟩⟩⟩⟩⟩⟩⟩
theorem lw_p16 : lw_okq (⟨"CutBlocksModel", "layCuts", "(I[I)I"⟩, 24) := ⟨⟨by decide +kernel, by decide +kernel⟩, List.mem_of_getElem? (i := 504) (by decide +kernel), List.mem_of_getElem? (i := 641) (by decide +kernel), List.mem_of_getElem? (i := 642) (by decide +kernel)⟩
theorem lw_p17 : lw_okq (⟨"CutBlocksModel", "longFrom", "(II)I"⟩, 24) := ⟨⟨by decide +kernel, by decide +kernel⟩, List.mem_of_getElem? (i := 504) (by decide +kernel), List.mem_of_getElem? (i := 645) (by decide +kernel), List.mem_of_getElem? (i := 646) (by decide +kernel)⟩
theorem lw_p18 : lw_okq (⟨"CutBlocksModel", "next", "(IIII)I"⟩, 24) := ⟨⟨by decide +kernel, by decide +kernel⟩, List.mem_of_getElem? (i := 504) (by decide +kernel), List.mem_of_getElem? (i := 649) (by decide +kernel), List.mem_of_getElem? (i := 650) (by decide +kernel)⟩
theorem lw_p19 : lw_okq (⟨"CutBlocksModel", "isBlock", "(II)Z"⟩, 24) := ⟨⟨by decide +kernel, by decide +kernel⟩, List.mem_of_getElem? (i := 504) (by decide +kernel), List.mem_of_getElem? (i := 663) (by decide +kernel), List.mem_of_getElem? (i := 664) (by decide +kernel)⟩
theorem lw_p20 : lw_okq (⟨"CutBlocksModel", "isLike", "(IIII)Z"⟩, 24) := ⟨⟨by decide +kernel, by decide +kernel⟩, List.mem_of_getElem? (i := 504) (by decide +kernel), List.mem_of_getElem? (i := 688) (by decide +kernel), List.mem_of_getElem? (i := 689) (by decide +kernel)⟩
theorem lw_p21 : lw_okq (⟨"CutBlocksModel", "find", "(II)I"⟩, 24) := ⟨⟨by decide +kernel, by decide +kernel⟩, List.mem_of_getElem? (i := 504) (by decide +kernel), List.mem_of_getElem? (i := 699) (by decide +kernel), List.mem_of_getElem? (i := 700) (by decide +kernel)⟩
theorem lw_p22 : lw_okq (⟨"CutBlocksModel", "giveUp", "(IIII)I"⟩, 24) := ⟨⟨by decide +kernel, by decide +kernel⟩, List.mem_of_getElem? (i := 504) (by decide +kernel), List.mem_of_getElem? (i := 703) (by decide +kernel), List.mem_of_getElem? (i := 704) (by decide +kernel)⟩
theorem lw_p23 : lw_okq (⟨"CutBlocksModel", "isSnapshot", "(I)Z"⟩, 24) := ⟨⟨by decide +kernel, by decide +kernel⟩, List.mem_of_getElem? (i := 504) (by decide +kernel), List.mem_of_getElem? (i := 711) (by decide +kernel), List.mem_of_getElem? (i := 712) (by decide +kernel)⟩
theorem lw_p24 : lw_okq (⟨"CutBlocksModel", "takeOut", "(I)V"⟩, 24) := ⟨⟨by decide +kernel, by decide +kernel⟩, List.mem_of_getElem? (i := 504) (by decide +kernel), List.mem_of_getElem? (i := 715) (by decide +kernel), List.mem_of_getElem? (i := 716) (by decide +kernel)⟩
theorem lw_p25 : lw_okq (⟨"CutBlocksModel", "bytesOf", "(I)I"⟩, 24) := ⟨⟨by decide +kernel, by decide +kernel⟩, List.mem_of_getElem? (i := 504) (by decide +kernel), List.mem_of_getElem? (i := 727) (by decide +kernel), List.mem_of_getElem? (i := 728) (by decide +kernel)⟩
theorem lw_p26 : lw_okq (⟨"CutBlocksModel", "keysTold", "(Z)I"⟩, 24) := ⟨⟨by decide +kernel, by decide +kernel⟩, List.mem_of_getElem? (i := 504) (by decide +kernel), List.mem_of_getElem? (i := 739) (by decide +kernel), List.mem_of_getElem? (i := 740) (by decide +kernel)⟩
theorem lw_p27 : lw_okq (⟨"CutBlocksModel", "keyOf", "(I)J"⟩, 24) := ⟨⟨by decide +kernel, by decide +kernel⟩, List.mem_of_getElem? (i := 504) (by decide +kernel), List.mem_of_getElem? (i := 743) (by decide +kernel), List.mem_of_getElem? (i := 744) (by decide +kernel)⟩
def lw_privs_2 : List (MethodName × Nat) := [(⟨"CutBlocksModel", "layCuts", "(I[I)I"⟩, 24), (⟨"CutBlocksModel", "longFrom", "(II)I"⟩, 24), (⟨"CutBlocksModel", "next", "(IIII)I"⟩, 24), (⟨"CutBlocksModel", "isBlock", "(II)Z"⟩, 24), (⟨"CutBlocksModel", "isLike", "(IIII)Z"⟩, 24), (⟨"CutBlocksModel", "find", "(II)I"⟩, 24), (⟨"CutBlocksModel", "giveUp", "(IIII)I"⟩, 24), (⟨"CutBlocksModel", "isSnapshot", "(I)Z"⟩, 24), (⟨"CutBlocksModel", "takeOut", "(I)V"⟩, 24), (⟨"CutBlocksModel", "bytesOf", "(I)I"⟩, 24), (⟨"CutBlocksModel", "keysTold", "(Z)I"⟩, 24), (⟨"CutBlocksModel", "keyOf", "(I)J"⟩, 24)]
theorem lw_r2 : ∀ q ∈ lw_privs_2, lw_okq q := List.forall_mem_cons.mpr ⟨lw_p16, List.forall_mem_cons.mpr ⟨lw_p17, List.forall_mem_cons.mpr ⟨lw_p18, List.forall_mem_cons.mpr ⟨lw_p19, List.forall_mem_cons.mpr ⟨lw_p20, List.forall_mem_cons.mpr ⟨lw_p21, List.forall_mem_cons.mpr ⟨lw_p22, List.forall_mem_cons.mpr ⟨lw_p23, List.forall_mem_cons.mpr ⟨lw_p24, List.forall_mem_cons.mpr ⟨lw_p25, List.forall_mem_cons.mpr ⟨lw_p26, List.forall_mem_cons.mpr ⟨lw_p27, fun _ h => absurd h List.not_mem_nil⟩⟩⟩⟩⟩⟩⟩⟩⟩⟩⟩⟩
def lw_privs : List (MethodName × Nat) := lw_privs_1 ++ (lw_privs_2)
def lw_tbl : List Cond := k2_sels lw_privs ++ tables_1
theorem lw_privs_ok : ∀ q ∈ lw_privs, lw_okq q := by
  show ∀ q ∈ lw_privs_1 ++ (lw_privs_2), lw_okq q
  exact List.forall_mem_append.mpr ⟨lw_r1, lw_r2⟩
end
section
def cR0 : String := "CutBlocks$Row"
def cT0 : u_T := fun k => match k with
  | 0 => ("CutBlocks$Row", "bytes", "[I", true)
  | 1 => ("CutBlocks$Row", "starts", "[I", true)
  | 2 => ("CutBlocks$Row", "sums", "[I", true)
  | 3 => ("CutBlocks$Row", "heads", "[I", true)
  | 4 => ("CutBlocks$Row", "nexts", "[I", true)
  | _ => ("CutBlocks$Row", "count", "I", false)
def cY0 : Nat → FieldType := fun k => match k with
  | 0 => .array .int
  | 1 => .array .int
  | 2 => .array .int
  | 3 => .array .int
  | 4 => .array .int
  | _ => .int
theorem cN0 : ∀ a, a < 6 → ∀ b, b < 6 → a ≠ b → (cT0 a).2.1 ≠ (cT0 b).2.1 := by decide +kernel
theorem cP0 : ∀ k, k < 6 → parseFieldDescriptor (cT0 k).2.2.1 = some (cY0 k) := by decide +kernel
def cR1 : String := "CutBlocks$Rules"
def cT1 : u_T := fun k => match k with
  | 0 => ("CutBlocks$Rules", "table", "[I", true)
  | 1 => ("CutBlocks$Rules", "mode", "I", false)
  | 2 => ("CutBlocks$Rules", "least", "I", false)
  | 3 => ("CutBlocks$Rules", "greatest", "I", false)
  | 4 => ("CutBlocks$Rules", "bits", "I", false)
  | 5 => ("CutBlocks$Rules", "level", "I", false)
  | _ => ("CutBlocks$Rules", "record", "I", false)
def cY1 : Nat → FieldType := fun k => match k with
  | 0 => .array .int
  | 1 => .int
  | 2 => .int
  | 3 => .int
  | 4 => .int
  | 5 => .int
  | _ => .int
theorem cN1 : ∀ a, a < 7 → ∀ b, b < 7 → a ≠ b → (cT1 a).2.1 ≠ (cT1 b).2.1 := by decide +kernel
theorem cP1 : ∀ k, k < 7 → parseFieldDescriptor (cT1 k).2.2.1 = some (cY1 k) := by decide +kernel
def cR2 : String := "CutBlocks$Snapshot"
def cT2 : u_T := fun k => match k with
  | 0 => ("CutBlocks$Snapshot", "numbers", "[I", true)
  | 1 => ("CutBlocks$Snapshot", "count", "I", false)
  | 2 => ("CutBlocks$Snapshot", "length", "I", false)
  | _ => ("CutBlocks$Snapshot", "there", "Z", false)
def cY2 : Nat → FieldType := fun k => match k with
  | 0 => .array .int
  | 1 => .int
  | 2 => .int
  | _ => .boolean
theorem cN2 : ∀ a, a < 4 → ∀ b, b < 4 → a ≠ b → (cT2 a).2.1 ≠ (cT2 b).2.1 := by decide +kernel
theorem cP2 : ∀ k, k < 4 → parseFieldDescriptor (cT2 k).2.2.1 = some (cY2 k) := by decide +kernel
def cR3 : String := "CutBlocks$Store"
def cT3 : u_T := fun k => match k with
  | 0 => ("CutBlocks$Store", "row", "LCutBlocks$Row;", true)
  | 1 => ("CutBlocks$Store", "places", "[I", true)
  | 2 => ("CutBlocks$Store", "newNumbers", "[I", true)
  | _ => ("CutBlocks$Store", "snapshots", "[LCutBlocks$Snapshot;", true)
def cY3 : Nat → FieldType := fun k => match k with
  | 0 => .object "CutBlocks$Row"
  | 1 => .array .int
  | 2 => .array .int
  | _ => .array (.object "CutBlocks$Snapshot")
theorem cN3 : ∀ a, a < 4 → ∀ b, b < 4 → a ≠ b → (cT3 a).2.1 ≠ (cT3 b).2.1 := by decide +kernel
theorem cP3 : ∀ k, k < 4 → parseFieldDescriptor (cT3 k).2.2.1 = some (cY3 k) := by decide +kernel
def cR4 : String := "CutBlocks$Text"
def cT4 : u_T := fun k => match k with
  | 0 => ("CutBlocks$Text", "row", "LCutBlocks$Row;", true)
  | 1 => ("CutBlocks$Text", "length", "I", false)
  | 2 => ("CutBlocks$Text", "cut", "Z", false)
  | _ => ("CutBlocks$Text", "indexed", "Z", false)
def cY4 : Nat → FieldType := fun k => match k with
  | 0 => .object "CutBlocks$Row"
  | 1 => .int
  | 2 => .boolean
  | _ => .boolean
theorem cN4 : ∀ a, a < 4 → ∀ b, b < 4 → a ≠ b → (cT4 a).2.1 ≠ (cT4 b).2.1 := by decide +kernel
theorem cP4 : ∀ k, k < 4 → parseFieldDescriptor (cT4 k).2.2.1 = some (cY4 k) := by decide +kernel
def cR5 : String := "CutBlocks"
def cT5 : u_T := fun k => match k with
  | 0 => ("CutBlocks", "rules", "LCutBlocks$Rules;", true)
  | 1 => ("CutBlocks", "texts", "[LCutBlocks$Text;", true)
  | _ => ("CutBlocks", "store", "LCutBlocks$Store;", true)
def cY5 : Nat → FieldType := fun k => match k with
  | 0 => .object "CutBlocks$Rules"
  | 1 => .array (.object "CutBlocks$Text")
  | _ => .object "CutBlocks$Store"
theorem cN5 : ∀ a, a < 3 → ∀ b, b < 3 → a ≠ b → (cT5 a).2.1 ≠ (cT5 b).2.1 := by decide +kernel
theorem cP5 : ∀ k, k < 3 → parseFieldDescriptor (cT5 k).2.2.1 = some (cY5 k) := by decide +kernel
def cR6 : String := "CutBlocksModel"
def cT6 : u_T := fun k => match k with
  | 0 => ("CutBlocksModel", "code", "I", false)
  | 1 => ("CutBlocksModel", "texts", "[I", true)
  | 2 => ("CutBlocksModel", "sizes", "[I", true)
  | 3 => ("CutBlocksModel", "table", "[I", true)
  | 4 => ("CutBlocksModel", "mode", "I", false)
  | 5 => ("CutBlocksModel", "least", "I", false)
  | 6 => ("CutBlocksModel", "greatest", "I", false)
  | 7 => ("CutBlocksModel", "bits", "I", false)
  | 8 => ("CutBlocksModel", "level", "I", false)
  | 9 => ("CutBlocksModel", "record", "I", false)
  | 10 => ("CutBlocksModel", "begins", "[I", true)
  | 11 => ("CutBlocksModel", "many", "I", false)
  | 12 => ("CutBlocksModel", "others", "[I", true)
  | 13 => ("CutBlocksModel", "otherMany", "I", false)
  | 14 => ("CutBlocksModel", "pool", "[I", true)
  | 15 => ("CutBlocksModel", "poolSize", "I", false)
  | 16 => ("CutBlocksModel", "keptMany", "I", false)
  | 17 => ("CutBlocksModel", "keptAt", "[I", true)
  | 18 => ("CutBlocksModel", "keptLong", "[I", true)
  | 19 => ("CutBlocksModel", "keptUses", "[I", true)
  | 20 => ("CutBlocksModel", "isThere", "[Z", true)
  | 21 => ("CutBlocksModel", "rowSize", "[I", true)
  | 22 => ("CutBlocksModel", "rows", "[I", true)
  | _ => ("CutBlocksModel", "keys", "[I", true)
def cY6 : Nat → FieldType := fun k => match k with
  | 0 => .int
  | 1 => .array .int
  | 2 => .array .int
  | 3 => .array .int
  | 4 => .int
  | 5 => .int
  | 6 => .int
  | 7 => .int
  | 8 => .int
  | 9 => .int
  | 10 => .array .int
  | 11 => .int
  | 12 => .array .int
  | 13 => .int
  | 14 => .array .int
  | 15 => .int
  | 16 => .int
  | 17 => .array .int
  | 18 => .array .int
  | 19 => .array .int
  | 20 => .array .boolean
  | 21 => .array .int
  | 22 => .array .int
  | _ => .array .int
theorem cN6 : ∀ a, a < 24 → ∀ b, b < 24 → a ≠ b → (cT6 a).2.1 ≠ (cT6 b).2.1 := by decide +kernel
theorem cP6 : ∀ k, k < 24 → parseFieldDescriptor (cT6 k).2.2.1 = some (cY6 k) := by decide +kernel
def vwCl : List vw_C := [(cR0, cT0, 6), (cR1, cT1, 7), (cR2, cT2, 4), (cR3, cT3, 4), (cR4, cT4, 4), (cR5, cT5, 3), (cR6, cT6, 24)]
def kv_flags : Nat → List Bool := fun k => match k with
  | 0 => [true, true, true, true, true, false]
  | 1 => [true, false, false, false, false, false, false]
  | 2 => [true, false, false, false]
  | 3 => [true, true, true, true]
  | 4 => [true, false, false, false]
  | 5 => [true, true, true]
  | 6 => [false, true, true, true, false, false, false, false, false, false, true, false, true, false, true, false, false, true, true, true, true, true, true, true]
  | _ => []
def kv_tys (cA : Nat → ClassId) : List (ClassId × FieldType) := [(cA 0, .int), (cA 1, .boolean), (cA 6, .object "CutBlocks$Text"), (cA 4, .object "CutBlocks$Snapshot")]
def kv_ao : List String := ["CutBlocks$Text", "CutBlocks$Snapshot"]
end
section
abbrev kv_Sh : Type := (Nat × Nat) ⊕ (Nat × Nat × (Nat → Option Nat)) ⊕ (Nat × (Nat → Option Nat))
abbrev kv_SM : Type := Nat → kv_Sh
abbrev kv_IM : Type := Nat → Nat → Int32
abbrev kv_B : Type := Nat × Nat × Nat × (Nat → Int32)
abbrev kv_M : Type := String × MethodName × ByteArray × Nat × Option FieldType
abbrev kv_Q : Type := Option Value → Nat → kv_SM → kv_IM → Prop
abbrev kI (n : Nat) : kv_Sh := .inl (0, n)
abbrev kZ (n : Nat) : kv_Sh := .inl (1, n)
abbrev kA (c n : Nat) (r : Nat → Option Nat) : kv_Sh := .inr (.inl (c, n, r))
abbrev kO (c : Nat) (r : Nat → Option Nat) : kv_Sh := .inr (.inr (c, r))
def kv_up (I : kv_IM) (a k : Nat) (x : Int32) : kv_IM := fun a' k' => if a' = a then (if k' = k then x else I a' k') else I a' k'
def kv_cp (I : kv_IM) (a0 a1 sp dp n : Nat) : kv_IM := fun a k => if a = a1 then va_cpy (I a0) (I a1) sp dp n k else I a k
def kv_su (S : kv_SM) (a : Nat) (x : kv_Sh) : kv_SM := fun a' => if a' = a then x else S a'
def kv_iu (I : kv_IM) (a : Nat) (f : Nat → Int32) : kv_IM := fun a' => if a' = a then f else I a'
def kv_ru (r : Nat → Option Nat) (k : Nat) (v : Option Nat) : Nat → Option Nat := fun j => if j = k then v else r j
def kv_fs (fl : List Bool) (r : Nat → Option Nat) (f : Nat → Int32) : List Value := (List.range fl.length).map (fun k => if fl.getD k false = true then va_rf (r k) else .int (f k))
def kv_e (cA : Nat → ClassId) (x : kv_Sh) (f : Nat → Int32) : va_E := match x with
  | .inl q => .inl (cA q.1, q.2, .inl f)
  | .inr (.inl q) => .inl (cA (q.1 + 2), q.2.1, .inr (.inr (.inr (.inr q.2.2))))
  | .inr (.inr q) => .inr (q.1, kv_fs (kv_flags q.1) q.2 f)
def kv_ws (b n : Nat) (cA : Nat → ClassId) (S : kv_SM) (I : kv_IM) : va_W := (List.range n).map (fun i => (b + i, kv_e cA (S (b + i)) (I (b + i))))
def kv_R (b n : Nat) (D : va_G) (cA : Nat → ClassId) (S : kv_SM) (I : kv_IM) (H : Heap) : Prop := H.size = b + n ∧ va_P D vwCl (kv_ws b n cA S I) H ∧ ∀ a, (a < b ∨ b + n ≤ a) → S a = .inl (0, 0)
theorem kv_ws_get {b n : Nat} {cA : Nat → ClassId} {S : kv_SM} {I : kv_IM} {a : Nat} (h1 : b ≤ a) (h2 : a < b + n) : (kv_ws b n cA S I)[a - b]? = some (a, kv_e cA (S a) (I a)) := by
  unfold kv_ws
  rw [List.getElem?_map, List.getElem?_range (by omega)]
  show some (b + (a - b), _) = _
  rw [show b + (a - b) = a by omega]
theorem kv_ws_mem {b n : Nat} {cA : Nat → ClassId} {S : kv_SM} {I : kv_IM} {k : Nat} {q : Nat × va_E} (h : (kv_ws b n cA S I)[k]? = some q) : k < n ∧ q = (b + k, kv_e cA (S (b + k)) (I (b + k))) := by
  unfold kv_ws at h
  rw [List.getElem?_map] at h
  by_cases hk : k < n
  · rw [List.getElem?_range hk] at h
    exact ⟨hk, (Option.some.inj h).symm⟩
  · rw [List.getElem?_eq_none (by simp; omega)] at h
    cases h
theorem kv_ws_D {b n : Nat} {cA : Nat → ClassId} {S : kv_SM} {I : kv_IM} : va_D (fun q => b ≤ q) (kv_ws b n cA S I) := by
  refine ⟨fun i j p q hi hj hpq => ?_, fun k q hk => ?_⟩
  · obtain ⟨-, rfl⟩ := kv_ws_mem hi
    obtain ⟨-, rfl⟩ := kv_ws_mem hj
    simp only at hpq
    omega
  · obtain ⟨-, rfl⟩ := kv_ws_mem hk
    show b ≤ b + k
    omega
theorem kv_ws_set {b n : Nat} {cA : Nat → ClassId} {S S' : kv_SM} {I I' : kv_IM} {a : Nat} {e : va_E} (h1 : b ≤ a) (h2 : a < b + n) (he : kv_e cA (S' a) (I' a) = e) (ho : ∀ q, q ≠ a → S' q = S q ∧ I' q = I q) : (kv_ws b n cA S I).set (a - b) (a, e) = kv_ws b n cA S' I' := by
  apply List.ext_getElem?
  intro k
  by_cases hk : k = a - b
  · subst hk
    rw [kv_ws_get h1 h2, he, List.getElem?_set_self]
    unfold kv_ws
    simp
    omega
  · rw [List.getElem?_set_ne (fun q => hk q.symm)]
    unfold kv_ws
    rw [List.getElem?_map, List.getElem?_map]
    by_cases hn : k < n
    · rw [List.getElem?_range hn]
      show some (b + k, _) = some (b + k, _)
      obtain ⟨e1, e2⟩ := ho (b + k) (by omega)
      rw [e1, e2]
    · rw [List.getElem?_eq_none (by simp; omega)]
      rfl
theorem kv_R.at {b n : Nat} {D : va_G} {cA : Nat → ClassId} {S : kv_SM} {I : kv_IM} {H : Heap} (h : kv_R b n D cA S I H) {a : Nat} (h1 : b ≤ a) (h2 : a < b + n) : va_at D vwCl (a, kv_e cA (S a) (I a)) H := h.2.1 (a - b) _ (kv_ws_get h1 h2)
theorem kv_R.inO {b n : Nat} {D : va_G} {cA : Nat → ClassId} {S : kv_SM} {I : kv_IM} {H : Heap} (h : kv_R b n D cA S I H) {a c : Nat} {r : Nat → Option Nat} (hS : S a = kO c r) : b ≤ a ∧ a < b + n := by
  by_cases q : a < b ∨ b + n ≤ a
  · rw [h.2.2 a q] at hS; cases hS
  · omega
theorem kv_R.inA {b n : Nat} {D : va_G} {cA : Nat → ClassId} {S : kv_SM} {I : kv_IM} {H : Heap} (h : kv_R b n D cA S I H) {a c k : Nat} {r : Nat → Option Nat} (hS : S a = kA c k r) : b ≤ a ∧ a < b + n := by
  by_cases q : a < b ∨ b + n ≤ a
  · rw [h.2.2 a q] at hS; cases hS
  · omega
theorem kv_R.inI {b n : Nat} {D : va_G} {cA : Nat → ClassId} {S : kv_SM} {I : kv_IM} {H : Heap} (h : kv_R b n D cA S I H) {a t k : Nat} (hS : S a = .inl (t, k)) (hk : 0 < k) : b ≤ a ∧ a < b + n := by
  by_cases q : a < b ∨ b + n ≤ a
  · rw [h.2.2 a q] at hS; cases hS; omega
  · omega
theorem kv_R.set {b n : Nat} {D : va_G} {cA : Nat → ClassId} {S S' : kv_SM} {I I' : kv_IM} {H H1 : Heap} (h : kv_R b n D cA S I H) {a : Nat} {e : va_E} (h1 : b ≤ a) (h2 : a < b + n) (hz : H1.size = H.size) (hP : va_P D vwCl ((kv_ws b n cA S I).set (a - b) (a, e)) H1) (he : kv_e cA (S' a) (I' a) = e) (ho : ∀ q, q ≠ a → S' q = S q ∧ I' q = I q) : kv_R b n D cA S' I' H1 := by
  refine ⟨hz.trans h.1, ?_, fun q hq => ?_⟩
  · rw [kv_ws_set h1 h2 he ho] at hP
    exact hP
  · rw [(ho q (by omega)).1]
    exact h.2.2 q hq
theorem kv_fs_get {fl : List Bool} {r : Nat → Option Nat} {f : Nat → Int32} {k : Nat} {t : Bool} (h : fl[k]? = some t) : (kv_fs fl r f)[k]? = some (if t = true then va_rf (r k) else .int (f k)) := by
  have hk : k < fl.length := (List.getElem?_eq_some_iff.mp h).1
  unfold kv_fs
  rw [List.getElem?_map, List.getElem?_range hk]
  simp [List.getD_eq_getElem?_getD, h]
theorem kv_fs_len {fl : List Bool} {r : Nat → Option Nat} {f : Nat → Int32} : (kv_fs fl r f).length = fl.length := by simp [kv_fs]
theorem kv_fs_setI {fl : List Bool} {r : Nat → Option Nat} {f f' : Nat → Int32} {k : Nat} {x : Int32} (h : fl[k]? = some false) (hx : f' k = x) (ho : ∀ j, j ≠ k → f' j = f j) : kv_fs fl r f' = (kv_fs fl r f).set k (.int x) := by
  apply List.ext_getElem?
  intro j
  have hk : k < fl.length := (List.getElem?_eq_some_iff.mp h).1
  by_cases hj : j = k
  · subst hj
    rw [kv_fs_get h, List.getElem?_set_self (by rw [kv_fs_len]; exact hk)]
    simp [hx]
  · rw [List.getElem?_set_ne (fun q => hj q.symm)]
    unfold kv_fs
    rw [List.getElem?_map, List.getElem?_map]
    by_cases hl : j < fl.length
    · rw [List.getElem?_range hl]
      simp [ho j hj]
    · rw [List.getElem?_eq_none (by simp; omega)]
      rfl
theorem kv_fs_setR {fl : List Bool} {r r' : Nat → Option Nat} {f : Nat → Int32} {k : Nat} {x : Option Nat} (h : fl[k]? = some true) (hx : r' k = x) (ho : ∀ j, j ≠ k → r' j = r j) : kv_fs fl r' f = (kv_fs fl r f).set k (va_rf x) := by
  apply List.ext_getElem?
  intro j
  have hk : k < fl.length := (List.getElem?_eq_some_iff.mp h).1
  by_cases hj : j = k
  · subst hj
    rw [kv_fs_get h, List.getElem?_set_self (by rw [kv_fs_len]; exact hk)]
    simp [hx]
  · rw [List.getElem?_set_ne (fun q => hj q.symm)]
    unfold kv_fs
    rw [List.getElem?_map, List.getElem?_map]
    by_cases hl : j < fl.length
    · rw [List.getElem?_range hl]
      simp [ho j hj]
    · rw [List.getElem?_eq_none (by simp; omega)]
      rfl
def kv_isN : Cond → Bool
  | .fieldLinkNest _ _ _ _ _ _ => true
  | .methodLinkNest _ _ _ _ => true
  | _ => false
def kv_tb : List Cond := lw_tbl.filter goodWord
def kv_nw : List Cond := lw_tbl.filter kv_isN
theorem kv_tb_in {w : Cond} (h : w ∈ lw_tbl) (hg : goodWord w = true) : w ∈ kv_tb := List.mem_filter.mpr ⟨h, hg⟩
theorem kv_nw_in {w : Cond} (h : w ∈ lw_tbl) (hg : kv_isN w = true) : w ∈ kv_nw := List.mem_filter.mpr ⟨h, hg⟩
theorem kv_tb_good : GoodIn kv_tb kv_tb := fun w h => ⟨h, good_of_word (List.mem_filter.mp h).2⟩
def kv_wd (y : kv_M) : List Cond := .code y.2.1 y.2.2.1 y.2.2.2.1 y.2.2.2.2 :: kv_tb
def kv_rm (d kc ks : Nat) : Room := { frames := d, cells := kc, slots := ks, locals := 36 * d }
def kv_ret (y : kv_M) (v : Option Value) (pc : Nat) : Prop := match v with
  | none => decode y.2.2.1 pc = .ok (.return_, 1) ∧ y.2.2.2.2 = none
  | some (.int x) => decode y.2.2.1 pc = .ok (.ireturn, 1) ∧ ∃ ty, y.2.2.2.2 = some ty ∧ narrow ty (.int x) = .int x
  | some (.long _) => decode y.2.2.1 pc = .ok (.lreturn, 1) ∧ y.2.2.2.2 = some .long
  | some (.ref _) => decode y.2.2.1 pc = .ok (.areturn, 1) ∧ ((∃ nm, y.2.2.2.2 = some (.object nm)) ∨ ∃ t, y.2.2.2.2 = some (.array t))
  | _ => False
def kv_N (s : State) : Prop := (∀ w ∈ kv_nw, va_Nw w s) ∧ ∀ C ∈ kv_ao, va_AO C s
def kv_C (y : kv_M) (d : Nat) (B : kv_B) (Q : kv_Q) (p : Program) (l : Launch) (e : Env) (R : Room) (s : State) (m : MethodId) (args : Array Value) (below : List Frame) (meth : Method) (c : Code) (D : va_G) (cA : Nat → ClassId) (Z : State → Prop) (mc ms : Nat) : Prop :=
  p.tables.exec = Jvm.exec ∧ c.code = y.2.2.1 ∧ c.maxLocals = y.2.2.2.1 ∧ s.vm.findClass y.1 = some m.cls ∧ (∀ w ∈ kv_tb, w.before args s = true) ∧ kv_N s ∧ va_K D vwCl (kv_tys cA) s ∧ (d ≤ R.frames ∧ 36 * d ≤ R.locals ∧ R.cells = mc ∧ R.slots = ms) ∧ (y.2.1.name = "<init>" → meth.name = "<init>") ∧ (B.2.1 < B.1 ∧ va_X B.2.1 B.2.2.1 B.2.2.2 s s.heap) ∧
  ∀ (H : Heap) (locs : List Loc) (cells slots n : Nat) (S : kv_SM) (I : kv_IM) (v : Option Value) (pc : Nat) (ls : Array Slot), kv_R B.1 n D cA S I H → H[B.2.1]? = s.heap[B.2.1]? → (∀ q ∈ locs, B.1 ≤ q.base) → cells ≤ mc → slots ≤ ms → Q v n S I → kv_ret y v pc → W p l e R s m args below meth c H locs cells slots Z (F0 m pc ls v.toList)
def kv_V (y : kv_M) (d : Nat) (B : kv_B) (Q : kv_Q) (kc ks n : Nat) (S : kv_SM) (I : kv_IM) (pc : Nat) (L : List (Nat × Value)) (st : List Value) : Prop :=
  ∀ (p : Program) (l : Launch) (e : Env) (R : Room) (s : State) (m : MethodId) (args : Array Value) (below : List Frame) (meth : Method) (c : Code) (D : va_G) (cA : Nat → ClassId) (Z : State → Prop) (mc ms : Nat), kv_C y d B Q p l e R s m args below meth c D cA Z mc ms →
  ∀ (H : Heap) (locs : List Loc) (cells slots : Nat) (ls : Array Slot), kv_R B.1 n D cA S I H → H[B.2.1]? = s.heap[B.2.1]? → (∀ q ∈ locs, B.1 ≤ q.base) → cells + kc ≤ mc → slots + ks ≤ ms → lv_has ls y.2.2.2.1 L → W p l e R s m args below meth c H locs cells slots Z (F0 m pc ls st)
def kv_Pc (as : List Value) (B : kv_B) (n : Nat) (S : kv_SM) (I : kv_IM) (D : va_G) (cA : Nat → ClassId) : Array Value → State → Prop := fun a U => a = as.toArray ∧ va_K D vwCl (kv_tys cA) U ∧ kv_R B.1 n D cA S I U.heap ∧ kv_N U ∧ B.2.1 < B.1 ∧ va_X B.2.1 B.2.2.1 B.2.2.2 U U.heap
def kv_Qc (B : kv_B) (Q : kv_Q) (D : va_G) (cA : Nat → ClassId) : Array Value → State → Outcome → State → Prop := fun _ st o t => ∃ (v : Option Value) (n : Nat) (S : kv_SM) (I : kv_IM), o = .returned v ∧ Q v n S I ∧ kv_R B.1 n D cA S I t.heap ∧ t.heap[B.2.1]? = st.heap[B.2.1]?
def kv_T (y : kv_M) (d kc ks : Nat) (B : kv_B) (as : List Value) (n : Nat) (S : kv_SM) (I : kv_IM) (Q : kv_Q) : Prop :=
  ∀ (l : Launch) (D : va_G) (cA : Nat → ClassId), Met l y.2.1 (kv_wd y) (kv_rm d kc ks) (kv_Pc as B n S I D cA) (kv_Qc B Q D cA) kc ks (fun q => B.1 ≤ q)
theorem kv_nw_onTables {w : Cond} (h : w ∈ kv_nw) : w.onTables = true := by
  have h1 := (List.mem_filter.mp h).2
  cases w <;> first | rfl | (simp [kv_isN] at h1)
theorem kv_nw_warm {w : Cond} (h : w ∈ kv_nw) {s U : State} (hW : s.WarmedH U.vm) (hw : va_Nw w s) : va_Nw w U := by
  have h1 := (List.mem_filter.mp h).2
  cases w <;> first | exact va_Nw.warmF hW hw | exact va_Nw.warmM hW hw | (simp [kv_isN] at h1)
theorem kv_Pc_blind {as : List Value} {B : kv_B} {n : Nat} {S : kv_SM} {I : kv_IM} {D : va_G} {cA : Nat → ClassId} : FrameBlind (kv_Pc as B n S I D cA) := by
  intro a U g mk q
  obtain ⟨q0, q1, q2, q3, q4, q5⟩ := q
  exact ⟨q0, va_K.moved (u := U) (U := U.calling g mk a) (Vm.Alike.refl U.vm) q1, q2, ⟨fun w hw => va_Nw.same (u := U) (U := U.calling g mk a) (kv_nw_onTables hw) rfl (q3.1 w hw), fun C hC => va_AO.moved (u := U) (U := U.calling g mk a) (Vm.Alike.refl U.vm) (q3.2 C hC)⟩, q4, va_X.moved (u := U) (U := U.calling g mk a) (Vm.Alike.refl U.vm) q5⟩
theorem kv_Pc_at {as : List Value} {B : kv_B} {n : Nat} {S : kv_SM} {I : kv_IM} {D : va_G} {cA : Nat → ClassId} {s U : State} {H : Heap} (hU : U.heap = H) (hW : s.WarmedH U.vm) (hK : va_K D vwCl (kv_tys cA) s) (hR : kv_R B.1 n D cA S I H) (hN : kv_N s) (hb : B.2.1 < B.1) (hX : va_X B.2.1 B.2.2.1 B.2.2.2 s s.heap) (hH : H[B.2.1]? = s.heap[B.2.1]?) : kv_Pc as B n S I D cA as.toArray U := by
  refine ⟨rfl, va_K.moved hW.alike hK, by rw [hU]; exact hR, ⟨fun w hw => kv_nw_warm hw hW (hN.1 w hw), fun C hC => va_AO.moved hW.alike (hN.2 C hC)⟩, hb, ?_⟩
  rw [hU]
  exact (hX.kept hH).moved hW.alike
theorem kv_T.of {y : kv_M} {d kc ks : Nat} {B : kv_B} {as : List Value} {n : Nat} {S : kv_SM} {I : kv_IM} {Q : kv_Q} (hy : plainName y.2.1.cls = true) (hcl : y.2.1.cls = y.1) (hL : (lg_sl as).length ≤ y.2.2.2.1)
    (hV : kv_V y d B Q kc ks n S I 0 (lv_args 0 as) []) : kv_T y d kc ks B as n S I Q := by
  intro l D cA
  refine Met.ofW (cc := y.2.2.1) (maxL := y.2.2.2.1) (ret := y.2.2.2.2) hy rfl ?_
  intro p e s m args below meth c s₁ Bd hml hv
  obtain ⟨rfl, hK, hR, hN, hb, hX⟩ := hv
  have hts := atoms_spec (ws := kv_wd y) Bd.pre
  have hown : s.vm.findClass y.1 = some m.cls := by rw [← hcl]; exact findClass_of_methodNamed Bd.named
  have hlocks := Bd.notSynchronized
  have hr := Bd.returns
  rw [lg_entry_eq]
  have hl := lv_entry as hL
  refine hV p l e (kv_rm d kc ks) s m as.toArray below meth c D cA _ kc ks ⟨Bd.exec, Bd.bytes, hml, hown, fun w hw => hts w (List.mem_cons_of_mem _ hw), hN, hK, ⟨Nat.le_refl _, Nat.le_refl _, rfl, rfl⟩, fun hi => (name_of_methodNamed Bd.named Bd.method).1.trans hi, ⟨hb, hX⟩, ?_⟩ s.heap [] 0 0 _ hR rfl (fun q h => by cases h) (by omega) (by omega) hl
  intro H locs cells slots n' S' I' v pc ls hR' hH' hq hc hs hQ hret
  refine W.widen (k := kc) (n := ks) hc hs ?_
  have hx := Bd.exec
  have hbb := Bd.bytes
  match v, hret, hQ with
  | none, ⟨hd, hn⟩, hQ => exact W.vret hx hbb (hr.trans hn) (fun t ht hW => ⟨_, _, _, _, rfl, hQ, by rw [ht]; exact hR', by rw [ht]; exact hH'⟩) hq hd
  | some (.int x), ⟨hd, ty, hn, hnar⟩, hQ => exact W.zret hx hbb (hr.trans hn) hnar (fun t ht hW => ⟨_, _, _, _, rfl, hQ, by rw [ht]; exact hR', by rw [ht]; exact hH'⟩) hq hd
  | some (.long x), ⟨hd, hn⟩, hQ => exact W.lret hx hbb (hr.trans hn) (fun t ht hW => ⟨_, _, _, _, rfl, hQ, by rw [ht]; exact hR', by rw [ht]; exact hH'⟩) hq hd
  | some (.ref x), ⟨hd, hn⟩, hQ =>
    rcases hn with ⟨nm, hn⟩ | ⟨t, hn⟩
    · exact W.aret hx hbb (hr.trans hn) (Or.inl ⟨nm, rfl⟩) (Or.inr ⟨x, rfl⟩) (fun t ht hW => ⟨_, _, _, _, rfl, hQ, by rw [ht]; exact hR', by rw [ht]; exact hH'⟩) hq hd
    · exact W.aret hx hbb (hr.trans hn) (Or.inr ⟨t, rfl⟩) (Or.inr ⟨x, rfl⟩) (fun t ht hW => ⟨_, _, _, _, rfl, hQ, by rw [ht]; exact hR', by rw [ht]; exact hH'⟩) hq hd
theorem kv_T.mono {y : kv_M} {d kc ks : Nat} {B : kv_B} {as : List Value} {n : Nat} {S : kv_SM} {I : kv_IM} {Q Q' : kv_Q} (h : kv_T y d kc ks B as n S I Q) (hq : ∀ v n S I, Q v n S I → Q' v n S I) : kv_T y d kc ks B as n S I Q' := by
  intro l D cA p e ha hc hk s m args below hf happ hP hK
  obtain ⟨k, o, h1, h2, h3, ⟨v, n', S', I', e1, e2, e3⟩, h4⟩ := h l D cA p e ha hc hk s m args below hf happ hP hK
  exact ⟨k, o, h1, h2, h3, ⟨v, n', S', I', e1, hq _ _ _ _ e2, e3⟩, h4⟩
section KVV
variable {y : kv_M} {d : Nat} {B : kv_B} {Q : kv_Q} {kc ks n : Nat} {S : kv_SM} {I : kv_IM} {pc : Nat} {L : List (Nat × Value)} {st : List Value}
theorem kv_end {v : Option Value} (hq : Q v n S I) (hr : kv_ret y v pc) : kv_V y d B Q kc ks n S I pc L v.toList := by
  intro p l e R s m args below meth c D cA Z mc ms C H locs cells slots ls hR hH hq' hc hs hl
  exact C.2.2.2.2.2.2.2.2.2.2 H locs cells slots n S I v pc ls hR hH hq' (by omega) (by omega) hq hr
theorem kv_loc {L' : List (Nat × Value)} (ks' : List Nat) (h : lv_pick L ks' = L') (k : kv_V y d B Q kc ks n S I pc L' st) : kv_V y d B Q kc ks n S I pc L st := by
  intro p l e R s m args below meth c D cA Z mc ms C H locs cells slots ls hR hH hq' hc hs hl
  exact k p l e R s m args below meth c D cA Z mc ms C H locs cells slots ls hR hH hq' hc hs (lv_sub hl ks' h)
theorem kv_less {kc' ks' : Nat} (h1 : kc' ≤ kc) (h2 : ks' ≤ ks) (k : kv_V y d B Q kc' ks' n S I pc L st) : kv_V y d B Q kc ks n S I pc L st := by
  intro p l e R s m args below meth c D cA Z mc ms C H locs cells slots ls hR hH hq' hc hs hl
  exact k p l e R s m args below meth c D cA Z mc ms C H locs cells slots ls hR hH hq' (by omega) (by omega) hl
end KVV
end
section
theorem kv_lkm {i : Nat} {v : Value} : ∀ {L : List (Nat × Value)}, L.lookup i = some v → (i, v) ∈ L
  | [], h => by cases h
  | (j, w) :: L, h => by
    rw [List.lookup_cons] at h
    by_cases hj : i = j
    · subst hj
      simp at h
      subst h
      exact List.mem_cons_self
    · have hb : (i == j) = false := by simp [hj]
      rw [hb] at h
      exact List.mem_cons_of_mem _ (kv_lkm h)
theorem kv_lk {ls : Array Slot} {nL i : Nat} {v : Value} {L : List (Nat × Value)} (hl : lv_has ls nL L) (h : L.lookup i = some v) : ls[i]? = some (.val v) := hl.2.2 (i, v) (kv_lkm h)
section KVR
variable {y : kv_M} {d : Nat} {B : kv_B} {Q : kv_Q} {kc ks n : Nat} {S : kv_SM} {I : kv_IM} {pc : Nat} {L : List (Nat × Value)} {st : List Value}
theorem kv_iconst {i : Int} {v : Int32} (hd : decode y.2.2.1 pc = .ok (.iconst i, 1)) (hv : Int32.ofInt i = v) (k : kv_V y d B Q kc ks n S I (pc + 1) L (.int v :: st)) : kv_V y d B Q kc ks n S I (pc) L (st) := by
  intro p l e R s m args below meth c D cA Z mc ms C H locs cells slots ls hR hH hq' hc hs hl
  exact lv_iconst C.1 C.2.1 hd hv (k p l e R s m args below meth c D cA Z mc ms C H locs cells slots ls hR hH hq' hc hs hl)
theorem kv_bipush {i : Int} {v : Int32} (hd : decode y.2.2.1 pc = .ok (.bipush i, 2)) (hv : (Int8.ofInt i).toInt32 = v) (k : kv_V y d B Q kc ks n S I (pc + 2) L (.int v :: st)) : kv_V y d B Q kc ks n S I (pc) L (st) := by
  intro p l e R s m args below meth c D cA Z mc ms C H locs cells slots ls hR hH hq' hc hs hl
  exact lv_bipush C.1 C.2.1 hd hv (k p l e R s m args below meth c D cA Z mc ms C H locs cells slots ls hR hH hq' hc hs hl)
theorem kv_sipush {i : Int} {v : Int32} (hd : decode y.2.2.1 pc = .ok (.sipush i, 3)) (hv : (Int16.ofInt i).toInt32 = v) (k : kv_V y d B Q kc ks n S I (pc + 3) L (.int v :: st)) : kv_V y d B Q kc ks n S I (pc) L (st) := by
  intro p l e R s m args below meth c D cA Z mc ms C H locs cells slots ls hR hH hq' hc hs hl
  exact lv_sipush C.1 C.2.1 hd hv (k p l e R s m args below meth c D cA Z mc ms C H locs cells slots ls hR hH hq' hc hs hl)
theorem kv_lconst {i : Fin 2} {v : Int64} (hd : decode y.2.2.1 pc = .ok (.lconst i, 1)) (hv : Int64.ofNat (i : Nat) = v) (k : kv_V y d B Q kc ks n S I (pc + 1) L (.long v :: st)) : kv_V y d B Q kc ks n S I (pc) L (st) := by
  intro p l e R s m args below meth c D cA Z mc ms C H locs cells slots ls hR hH hq' hc hs hl
  exact lv_lconst C.1 C.2.1 hd hv (k p l e R s m args below meth c D cA Z mc ms C H locs cells slots ls hR hH hq' hc hs hl)
theorem kv_iadd {x z : Int32} (hd : decode y.2.2.1 pc = .ok (.iadd, 1))  (k : kv_V y d B Q kc ks n S I (pc + 1) L (.int (x + z) :: st)) : kv_V y d B Q kc ks n S I (pc) L (.int z :: .int x :: st) := by
  intro p l e R s m args below meth c D cA Z mc ms C H locs cells slots ls hR hH hq' hc hs hl
  exact lv_iadd C.1 C.2.1 hd  (k p l e R s m args below meth c D cA Z mc ms C H locs cells slots ls hR hH hq' hc hs hl)
theorem kv_isub {x z : Int32} (hd : decode y.2.2.1 pc = .ok (.isub, 1))  (k : kv_V y d B Q kc ks n S I (pc + 1) L (.int (x - z) :: st)) : kv_V y d B Q kc ks n S I (pc) L (.int z :: .int x :: st) := by
  intro p l e R s m args below meth c D cA Z mc ms C H locs cells slots ls hR hH hq' hc hs hl
  exact lv_isub C.1 C.2.1 hd  (k p l e R s m args below meth c D cA Z mc ms C H locs cells slots ls hR hH hq' hc hs hl)
theorem kv_imul {x z : Int32} (hd : decode y.2.2.1 pc = .ok (.imul, 1))  (k : kv_V y d B Q kc ks n S I (pc + 1) L (.int (x * z) :: st)) : kv_V y d B Q kc ks n S I (pc) L (.int z :: .int x :: st) := by
  intro p l e R s m args below meth c D cA Z mc ms C H locs cells slots ls hR hH hq' hc hs hl
  exact lv_imul C.1 C.2.1 hd  (k p l e R s m args below meth c D cA Z mc ms C H locs cells slots ls hR hH hq' hc hs hl)
theorem kv_iand {x z : Int32} (hd : decode y.2.2.1 pc = .ok (.iand, 1))  (k : kv_V y d B Q kc ks n S I (pc + 1) L (.int (x &&& z) :: st)) : kv_V y d B Q kc ks n S I (pc) L (.int z :: .int x :: st) := by
  intro p l e R s m args below meth c D cA Z mc ms C H locs cells slots ls hR hH hq' hc hs hl
  exact lv_iand C.1 C.2.1 hd  (k p l e R s m args below meth c D cA Z mc ms C H locs cells slots ls hR hH hq' hc hs hl)
theorem kv_ior {x z : Int32} (hd : decode y.2.2.1 pc = .ok (.ior, 1))  (k : kv_V y d B Q kc ks n S I (pc + 1) L (.int (x ||| z) :: st)) : kv_V y d B Q kc ks n S I (pc) L (.int z :: .int x :: st) := by
  intro p l e R s m args below meth c D cA Z mc ms C H locs cells slots ls hR hH hq' hc hs hl
  exact lv_ior C.1 C.2.1 hd  (k p l e R s m args below meth c D cA Z mc ms C H locs cells slots ls hR hH hq' hc hs hl)
theorem kv_ixor {x z : Int32} (hd : decode y.2.2.1 pc = .ok (.ixor, 1))  (k : kv_V y d B Q kc ks n S I (pc + 1) L (.int (x ^^^ z) :: st)) : kv_V y d B Q kc ks n S I (pc) L (.int z :: .int x :: st) := by
  intro p l e R s m args below meth c D cA Z mc ms C H locs cells slots ls hR hH hq' hc hs hl
  exact lv_ixor C.1 C.2.1 hd  (k p l e R s m args below meth c D cA Z mc ms C H locs cells slots ls hR hH hq' hc hs hl)
theorem kv_ishl {x z : Int32} (hd : decode y.2.2.1 pc = .ok (.ishl, 1))  (k : kv_V y d B Q kc ks n S I (pc + 1) L (.int (x <<< (z &&& 31)) :: st)) : kv_V y d B Q kc ks n S I (pc) L (.int z :: .int x :: st) := by
  intro p l e R s m args below meth c D cA Z mc ms C H locs cells slots ls hR hH hq' hc hs hl
  exact lv_ishl C.1 C.2.1 hd  (k p l e R s m args below meth c D cA Z mc ms C H locs cells slots ls hR hH hq' hc hs hl)
theorem kv_ishr {x z : Int32} (hd : decode y.2.2.1 pc = .ok (.ishr, 1))  (k : kv_V y d B Q kc ks n S I (pc + 1) L (.int (x >>> (z &&& 31)) :: st)) : kv_V y d B Q kc ks n S I (pc) L (.int z :: .int x :: st) := by
  intro p l e R s m args below meth c D cA Z mc ms C H locs cells slots ls hR hH hq' hc hs hl
  exact lv_ishr C.1 C.2.1 hd  (k p l e R s m args below meth c D cA Z mc ms C H locs cells slots ls hR hH hq' hc hs hl)
theorem kv_iushr {x z : Int32} (hd : decode y.2.2.1 pc = .ok (.iushr, 1))  (k : kv_V y d B Q kc ks n S I (pc + 1) L (.int ((x.toUInt32 >>> (z.toUInt32 &&& Int32.toUInt32 31)).toInt32) :: st)) : kv_V y d B Q kc ks n S I (pc) L (.int z :: .int x :: st) := by
  intro p l e R s m args below meth c D cA Z mc ms C H locs cells slots ls hR hH hq' hc hs hl
  exact lv_iushr C.1 C.2.1 hd rfl (k p l e R s m args below meth c D cA Z mc ms C H locs cells slots ls hR hH hq' hc hs hl)
theorem kv_idiv {x z : Int32} (hd : decode y.2.2.1 pc = .ok (.idiv, 1)) (hne : ¬ z = 0) (k : kv_V y d B Q kc ks n S I (pc + 1) L (.int (x / z) :: st)) : kv_V y d B Q kc ks n S I (pc) L (.int z :: .int x :: st) := by
  intro p l e R s m args below meth c D cA Z mc ms C H locs cells slots ls hR hH hq' hc hs hl
  exact lv_idiv C.1 C.2.1 hd hne (k p l e R s m args below meth c D cA Z mc ms C H locs cells slots ls hR hH hq' hc hs hl)
theorem kv_irem {x z : Int32} (hd : decode y.2.2.1 pc = .ok (.irem, 1)) (hne : ¬ z = 0) (k : kv_V y d B Q kc ks n S I (pc + 1) L (.int (x - x / z * z) :: st)) : kv_V y d B Q kc ks n S I (pc) L (.int z :: .int x :: st) := by
  intro p l e R s m args below meth c D cA Z mc ms C H locs cells slots ls hR hH hq' hc hs hl
  exact lv_irem C.1 C.2.1 hd hne (k p l e R s m args below meth c D cA Z mc ms C H locs cells slots ls hR hH hq' hc hs hl)
theorem kv_ineg {x : Int32} (hd : decode y.2.2.1 pc = .ok (.ineg, 1))  (k : kv_V y d B Q kc ks n S I (pc + 1) L (.int (-x) :: st)) : kv_V y d B Q kc ks n S I (pc) L (.int x :: st) := by
  intro p l e R s m args below meth c D cA Z mc ms C H locs cells slots ls hR hH hq' hc hs hl
  exact lv_ineg C.1 C.2.1 hd  (k p l e R s m args below meth c D cA Z mc ms C H locs cells slots ls hR hH hq' hc hs hl)
theorem kv_ladd {x z : Int64} (hd : decode y.2.2.1 pc = .ok (.ladd, 1))  (k : kv_V y d B Q kc ks n S I (pc + 1) L (.long (x + z) :: st)) : kv_V y d B Q kc ks n S I (pc) L (.long z :: .long x :: st) := by
  intro p l e R s m args below meth c D cA Z mc ms C H locs cells slots ls hR hH hq' hc hs hl
  exact lv_ladd C.1 C.2.1 hd  (k p l e R s m args below meth c D cA Z mc ms C H locs cells slots ls hR hH hq' hc hs hl)
theorem kv_lsub {x z : Int64} (hd : decode y.2.2.1 pc = .ok (.lsub, 1))  (k : kv_V y d B Q kc ks n S I (pc + 1) L (.long (x - z) :: st)) : kv_V y d B Q kc ks n S I (pc) L (.long z :: .long x :: st) := by
  intro p l e R s m args below meth c D cA Z mc ms C H locs cells slots ls hR hH hq' hc hs hl
  exact lv_lsub C.1 C.2.1 hd  (k p l e R s m args below meth c D cA Z mc ms C H locs cells slots ls hR hH hq' hc hs hl)
theorem kv_lmul {x z : Int64} (hd : decode y.2.2.1 pc = .ok (.lmul, 1))  (k : kv_V y d B Q kc ks n S I (pc + 1) L (.long (x * z) :: st)) : kv_V y d B Q kc ks n S I (pc) L (.long z :: .long x :: st) := by
  intro p l e R s m args below meth c D cA Z mc ms C H locs cells slots ls hR hH hq' hc hs hl
  exact lv_lmul C.1 C.2.1 hd  (k p l e R s m args below meth c D cA Z mc ms C H locs cells slots ls hR hH hq' hc hs hl)
theorem kv_land {x z : Int64} (hd : decode y.2.2.1 pc = .ok (.land, 1))  (k : kv_V y d B Q kc ks n S I (pc + 1) L (.long (x &&& z) :: st)) : kv_V y d B Q kc ks n S I (pc) L (.long z :: .long x :: st) := by
  intro p l e R s m args below meth c D cA Z mc ms C H locs cells slots ls hR hH hq' hc hs hl
  exact lv_land C.1 C.2.1 hd  (k p l e R s m args below meth c D cA Z mc ms C H locs cells slots ls hR hH hq' hc hs hl)
theorem kv_lor {x z : Int64} (hd : decode y.2.2.1 pc = .ok (.lor, 1))  (k : kv_V y d B Q kc ks n S I (pc + 1) L (.long (x ||| z) :: st)) : kv_V y d B Q kc ks n S I (pc) L (.long z :: .long x :: st) := by
  intro p l e R s m args below meth c D cA Z mc ms C H locs cells slots ls hR hH hq' hc hs hl
  exact lv_lor C.1 C.2.1 hd  (k p l e R s m args below meth c D cA Z mc ms C H locs cells slots ls hR hH hq' hc hs hl)
theorem kv_lxor {x z : Int64} (hd : decode y.2.2.1 pc = .ok (.lxor, 1))  (k : kv_V y d B Q kc ks n S I (pc + 1) L (.long (x ^^^ z) :: st)) : kv_V y d B Q kc ks n S I (pc) L (.long z :: .long x :: st) := by
  intro p l e R s m args below meth c D cA Z mc ms C H locs cells slots ls hR hH hq' hc hs hl
  exact lv_lxor C.1 C.2.1 hd  (k p l e R s m args below meth c D cA Z mc ms C H locs cells slots ls hR hH hq' hc hs hl)
theorem kv_ldiv {x z : Int64} (hd : decode y.2.2.1 pc = .ok (.ldiv, 1)) (hne : ¬ z = 0) (k : kv_V y d B Q kc ks n S I (pc + 1) L (.long (x / z) :: st)) : kv_V y d B Q kc ks n S I (pc) L (.long z :: .long x :: st) := by
  intro p l e R s m args below meth c D cA Z mc ms C H locs cells slots ls hR hH hq' hc hs hl
  exact lv_ldiv C.1 C.2.1 hd hne (k p l e R s m args below meth c D cA Z mc ms C H locs cells slots ls hR hH hq' hc hs hl)
theorem kv_lrem {x z : Int64} (hd : decode y.2.2.1 pc = .ok (.lrem, 1)) (hne : ¬ z = 0) (k : kv_V y d B Q kc ks n S I (pc + 1) L (.long (x - x / z * z) :: st)) : kv_V y d B Q kc ks n S I (pc) L (.long z :: .long x :: st) := by
  intro p l e R s m args below meth c D cA Z mc ms C H locs cells slots ls hR hH hq' hc hs hl
  exact lv_lrem C.1 C.2.1 hd hne (k p l e R s m args below meth c D cA Z mc ms C H locs cells slots ls hR hH hq' hc hs hl)
theorem kv_lcmp {x z : Int64} (hd : decode y.2.2.1 pc = .ok (.lcmp, 1))  (k : kv_V y d B Q kc ks n S I (pc + 1) L (.int (lg_cmp x z) :: st)) : kv_V y d B Q kc ks n S I (pc) L (.long z :: .long x :: st) := by
  intro p l e R s m args below meth c D cA Z mc ms C H locs cells slots ls hR hH hq' hc hs hl
  exact W.lcmp C.1 C.2.1 hd  (k p l e R s m args below meth c D cA Z mc ms C H locs cells slots ls hR hH hq' hc hs hl)
theorem kv_i2l {x : Int32} (hd : decode y.2.2.1 pc = .ok (.i2l, 1))  (k : kv_V y d B Q kc ks n S I (pc + 1) L (.long x.toInt64 :: st)) : kv_V y d B Q kc ks n S I (pc) L (.int x :: st) := by
  intro p l e R s m args below meth c D cA Z mc ms C H locs cells slots ls hR hH hq' hc hs hl
  exact lv_i2l C.1 C.2.1 hd rfl (k p l e R s m args below meth c D cA Z mc ms C H locs cells slots ls hR hH hq' hc hs hl)
theorem kv_l2i {x : Int64} (hd : decode y.2.2.1 pc = .ok (.l2i, 1))  (k : kv_V y d B Q kc ks n S I (pc + 1) L (.int x.toInt32 :: st)) : kv_V y d B Q kc ks n S I (pc) L (.long x :: st) := by
  intro p l e R s m args below meth c D cA Z mc ms C H locs cells slots ls hR hH hq' hc hs hl
  exact lv_l2i C.1 C.2.1 hd rfl (k p l e R s m args below meth c D cA Z mc ms C H locs cells slots ls hR hH hq' hc hs hl)
theorem kv_lushr {x : Int64} {z : Int32} (hd : decode y.2.2.1 pc = .ok (.lushr, 1))  (k : kv_V y d B Q kc ks n S I (pc + 1) L (.long ((x.toUInt64 >>> (z.toInt64.toUInt64 &&& Int64.toUInt64 63)).toInt64) :: st)) : kv_V y d B Q kc ks n S I (pc) L (.int z :: .long x :: st) := by
  intro p l e R s m args below meth c D cA Z mc ms C H locs cells slots ls hR hH hq' hc hs hl
  exact lv_lushr C.1 C.2.1 hd rfl (k p l e R s m args below meth c D cA Z mc ms C H locs cells slots ls hR hH hq' hc hs hl)
theorem kv_lshl {x : Int64} {z : Int32} (hd : decode y.2.2.1 pc = .ok (.lshl, 1))  (k : kv_V y d B Q kc ks n S I (pc + 1) L (.long (x <<< (z.toInt64 &&& 63)) :: st)) : kv_V y d B Q kc ks n S I (pc) L (.int z :: .long x :: st) := by
  intro p l e R s m args below meth c D cA Z mc ms C H locs cells slots ls hR hH hq' hc hs hl
  exact lv_lshl C.1 C.2.1 hd rfl (k p l e R s m args below meth c D cA Z mc ms C H locs cells slots ls hR hH hq' hc hs hl)
theorem kv_dup {va : Value} (hd : decode y.2.2.1 pc = .ok (.dup, 1)) (hva : va.category = 1) (k : kv_V y d B Q kc ks n S I (pc + 1) L (va :: va :: st)) : kv_V y d B Q kc ks n S I (pc) L (va :: st) := by
  intro p l e R s m args below meth c D cA Z mc ms C H locs cells slots ls hR hH hq' hc hs hl
  exact lv_dup C.1 C.2.1 hd hva (k p l e R s m args below meth c D cA Z mc ms C H locs cells slots ls hR hH hq' hc hs hl)
theorem kv_pop {va : Value} (hd : decode y.2.2.1 pc = .ok (.pop, 1)) (hva : va.category = 1) (k : kv_V y d B Q kc ks n S I (pc + 1) L (st)) : kv_V y d B Q kc ks n S I (pc) L (va :: st) := by
  intro p l e R s m args below meth c D cA Z mc ms C H locs cells slots ls hR hH hq' hc hs hl
  exact lv_pop C.1 C.2.1 hd hva (k p l e R s m args below meth c D cA Z mc ms C H locs cells slots ls hR hH hq' hc hs hl)
theorem kv_dup2 {va vb : Value} (hd : decode y.2.2.1 pc = .ok (.dup2, 1)) (hva : va.category = 1) (hvb : vb.category = 1) (k : kv_V y d B Q kc ks n S I (pc + 1) L (va :: vb :: va :: vb :: st)) : kv_V y d B Q kc ks n S I (pc) L (va :: vb :: st) := by
  intro p l e R s m args below meth c D cA Z mc ms C H locs cells slots ls hR hH hq' hc hs hl
  exact lv_dup2_11 C.1 C.2.1 hd hva hvb (k p l e R s m args below meth c D cA Z mc ms C H locs cells slots ls hR hH hq' hc hs hl)
theorem kv_dup_x1 {va vb : Value} (hd : decode y.2.2.1 pc = .ok (.dup_x1, 1)) (hva : va.category = 1) (hvb : vb.category = 1) (k : kv_V y d B Q kc ks n S I (pc + 1) L (va :: vb :: va :: st)) : kv_V y d B Q kc ks n S I (pc) L (va :: vb :: st) := by
  intro p l e R s m args below meth c D cA Z mc ms C H locs cells slots ls hR hH hq' hc hs hl
  exact lv_dup_x1 C.1 C.2.1 hd hva hvb (k p l e R s m args below meth c D cA Z mc ms C H locs cells slots ls hR hH hq' hc hs hl)
theorem kv_iload_n {i : Fin 4} {x : Int32} (hd : decode y.2.2.1 pc = .ok (.iload_n i, 1)) (hm : L.lookup (i : Nat) = some (.int x)) (k : kv_V y d B Q kc ks n S I (pc + 1) L (.int x :: st)) : kv_V y d B Q kc ks n S I (pc) L (st) := by
  intro p l e R s m args below meth c D cA Z mc ms C H locs cells slots ls hR hH hq' hc hs hl
  exact lv_iload_n C.1 C.2.1 hd rfl (kv_lk hl hm) (k p l e R s m args below meth c D cA Z mc ms C H locs cells slots ls hR hH hq' hc hs hl)
theorem kv_iload {i : Nat} {x : Int32} (hd : decode y.2.2.1 pc = .ok (.iload i, 2)) (hm : L.lookup i = some (.int x)) (k : kv_V y d B Q kc ks n S I (pc + 2) L (.int x :: st)) : kv_V y d B Q kc ks n S I (pc) L (st) := by
  intro p l e R s m args below meth c D cA Z mc ms C H locs cells slots ls hR hH hq' hc hs hl
  exact lv_iload C.1 C.2.1 hd (kv_lk hl hm) (k p l e R s m args below meth c D cA Z mc ms C H locs cells slots ls hR hH hq' hc hs hl)
theorem kv_aload_n {i : Fin 4} {x : Nat} (hd : decode y.2.2.1 pc = .ok (.aload_n i, 1)) (hm : L.lookup (i : Nat) = some (.ref x)) (k : kv_V y d B Q kc ks n S I (pc + 1) L (.ref x :: st)) : kv_V y d B Q kc ks n S I (pc) L (st) := by
  intro p l e R s m args below meth c D cA Z mc ms C H locs cells slots ls hR hH hq' hc hs hl
  exact lv_aload_n C.1 C.2.1 hd rfl (kv_lk hl hm) (k p l e R s m args below meth c D cA Z mc ms C H locs cells slots ls hR hH hq' hc hs hl)
theorem kv_aload {i : Nat} {x : Nat} (hd : decode y.2.2.1 pc = .ok (.aload i, 2)) (hm : L.lookup i = some (.ref x)) (k : kv_V y d B Q kc ks n S I (pc + 2) L (.ref x :: st)) : kv_V y d B Q kc ks n S I (pc) L (st) := by
  intro p l e R s m args below meth c D cA Z mc ms C H locs cells slots ls hR hH hq' hc hs hl
  exact lv_aload C.1 C.2.1 hd (kv_lk hl hm) (k p l e R s m args below meth c D cA Z mc ms C H locs cells slots ls hR hH hq' hc hs hl)
theorem kv_lload_n {i : Fin 4} {x : Int64} (hd : decode y.2.2.1 pc = .ok (.lload_n i, 1)) (hm : L.lookup (i : Nat) = some (.long x)) (k : kv_V y d B Q kc ks n S I (pc + 1) L (.long x :: st)) : kv_V y d B Q kc ks n S I (pc) L (st) := by
  intro p l e R s m args below meth c D cA Z mc ms C H locs cells slots ls hR hH hq' hc hs hl
  exact lv_lload_n C.1 C.2.1 hd rfl (kv_lk hl hm) (k p l e R s m args below meth c D cA Z mc ms C H locs cells slots ls hR hH hq' hc hs hl)
theorem kv_lload {i : Nat} {x : Int64} (hd : decode y.2.2.1 pc = .ok (.lload i, 2)) (hm : L.lookup i = some (.long x)) (k : kv_V y d B Q kc ks n S I (pc + 2) L (.long x :: st)) : kv_V y d B Q kc ks n S I (pc) L (st) := by
  intro p l e R s m args below meth c D cA Z mc ms C H locs cells slots ls hR hH hq' hc hs hl
  exact lv_lload C.1 C.2.1 hd (kv_lk hl hm) (k p l e R s m args below meth c D cA Z mc ms C H locs cells slots ls hR hH hq' hc hs hl)
theorem kv_istore_n {i : Fin 4} {x : Int32} {L' : List (Nat × Value)} (hd : decode y.2.2.1 pc = .ok (.istore_n i, 1)) (hn : (i : Nat) < y.2.2.2.1) (hL : ((i : Nat), Value.int x) :: L.filter (fun q => !(q.1 == (i : Nat)) && !(q.1 + 1 == (i : Nat) && q.2.category == 2)) = L') (k : kv_V y d B Q kc ks n S I (pc + 1) L' (st)) : kv_V y d B Q kc ks n S I (pc) L (.int x :: st) := by
  intro p l e R s m args below meth c D cA Z mc ms C H locs cells slots ls hR hH hq' hc hs hl
  exact lv_istore_n C.1 C.2.1 hd rfl hl hn hL (fun ls' hl' => (k p l e R s m args below meth c D cA Z mc ms C H locs cells slots ls' hR hH hq' hc hs hl'))
theorem kv_istore {i : Nat} {x : Int32} {L' : List (Nat × Value)} (hd : decode y.2.2.1 pc = .ok (.istore i, 2)) (hn : i < y.2.2.2.1) (hL : (i, Value.int x) :: L.filter (fun q => !(q.1 == i) && !(q.1 + 1 == i && q.2.category == 2)) = L') (k : kv_V y d B Q kc ks n S I (pc + 2) L' (st)) : kv_V y d B Q kc ks n S I (pc) L (.int x :: st) := by
  intro p l e R s m args below meth c D cA Z mc ms C H locs cells slots ls hR hH hq' hc hs hl
  exact lv_istore C.1 C.2.1 hd  hl hn hL (fun ls' hl' => (k p l e R s m args below meth c D cA Z mc ms C H locs cells slots ls' hR hH hq' hc hs hl'))
theorem kv_astore_n {i : Fin 4} {x : Nat} {L' : List (Nat × Value)} (hd : decode y.2.2.1 pc = .ok (.astore_n i, 1)) (hn : (i : Nat) < y.2.2.2.1) (hL : ((i : Nat), Value.ref x) :: L.filter (fun q => !(q.1 == (i : Nat)) && !(q.1 + 1 == (i : Nat) && q.2.category == 2)) = L') (k : kv_V y d B Q kc ks n S I (pc + 1) L' (st)) : kv_V y d B Q kc ks n S I (pc) L (.ref x :: st) := by
  intro p l e R s m args below meth c D cA Z mc ms C H locs cells slots ls hR hH hq' hc hs hl
  exact lv_astore_n C.1 C.2.1 hd rfl hl hn hL (fun ls' hl' => (k p l e R s m args below meth c D cA Z mc ms C H locs cells slots ls' hR hH hq' hc hs hl'))
theorem kv_astore {i : Nat} {x : Nat} {L' : List (Nat × Value)} (hd : decode y.2.2.1 pc = .ok (.astore i, 2)) (hn : i < y.2.2.2.1) (hL : (i, Value.ref x) :: L.filter (fun q => !(q.1 == i) && !(q.1 + 1 == i && q.2.category == 2)) = L') (k : kv_V y d B Q kc ks n S I (pc + 2) L' (st)) : kv_V y d B Q kc ks n S I (pc) L (.ref x :: st) := by
  intro p l e R s m args below meth c D cA Z mc ms C H locs cells slots ls hR hH hq' hc hs hl
  exact lv_astore C.1 C.2.1 hd  hl hn hL (fun ls' hl' => (k p l e R s m args below meth c D cA Z mc ms C H locs cells slots ls' hR hH hq' hc hs hl'))
theorem kv_lstore_n {i : Fin 4} {x : Int64} {L' : List (Nat × Value)} (hd : decode y.2.2.1 pc = .ok (.lstore_n i, 1)) (hn : (i : Nat) + 1 < y.2.2.2.1) (hL : ((i : Nat), Value.long x) :: L.filter (fun q => !(q.1 == (i : Nat)) && (!(q.1 == (i : Nat) + 1) && !(q.1 + 1 == (i : Nat) && q.2.category == 2))) = L') (k : kv_V y d B Q kc ks n S I (pc + 1) L' (st)) : kv_V y d B Q kc ks n S I (pc) L (.long x :: st) := by
  intro p l e R s m args below meth c D cA Z mc ms C H locs cells slots ls hR hH hq' hc hs hl
  exact lv_lstore_n C.1 C.2.1 hd rfl hl hn hL (fun ls' hl' => (k p l e R s m args below meth c D cA Z mc ms C H locs cells slots ls' hR hH hq' hc hs hl'))
theorem kv_lstore {i : Nat} {x : Int64} {L' : List (Nat × Value)} (hd : decode y.2.2.1 pc = .ok (.lstore i, 2)) (hn : i + 1 < y.2.2.2.1) (hL : (i, Value.long x) :: L.filter (fun q => !(q.1 == i) && (!(q.1 == i + 1) && !(q.1 + 1 == i && q.2.category == 2))) = L') (k : kv_V y d B Q kc ks n S I (pc + 2) L' (st)) : kv_V y d B Q kc ks n S I (pc) L (.long x :: st) := by
  intro p l e R s m args below meth c D cA Z mc ms C H locs cells slots ls hR hH hq' hc hs hl
  exact lv_lstore C.1 C.2.1 hd  hl hn hL (fun ls' hl' => (k p l e R s m args below meth c D cA Z mc ms C H locs cells slots ls' hR hH hq' hc hs hl'))
theorem kv_iinc {i : Nat} {u : Int} {x v : Int32} {L' : List (Nat × Value)} (hd : decode y.2.2.1 pc = .ok (.iinc i u, 3)) (hm : L.lookup i = some (.int x)) (hv : x + Int32.ofInt u = v) (hn : i < y.2.2.2.1) (hL : (i, Value.int v) :: L.filter (fun q => !(q.1 == i) && !(q.1 + 1 == i && q.2.category == 2)) = L') (k : kv_V y d B Q kc ks n S I (pc + 3) L' (st)) : kv_V y d B Q kc ks n S I (pc) L (st) := by
  intro p l e R s m args below meth c D cA Z mc ms C H locs cells slots ls hR hH hq' hc hs hl
  obtain ⟨j, hj⟩ := List.getElem?_of_mem (kv_lkm hm)
  exact lv_iinc C.1 C.2.1 hd hl hj hv hn hL (fun ls' hl' => (k p l e R s m args below meth c D cA Z mc ms C H locs cells slots ls' hR hH hq' hc hs hl'))
theorem kv_if_eq {x : Int32} {off : Int} (tgt : Nat) (hd : decode y.2.2.1 pc = .ok (.ifCond .eq off, 3)) (ht : (pc : Int) + off = (tgt : Int)) (kt : x = 0 → kv_V y d B Q kc ks n S I (tgt) L (st)) (kf : ¬ x = 0 → kv_V y d B Q kc ks n S I (pc + 3) L (st)) : kv_V y d B Q kc ks n S I (pc) L (.int x :: st) := by
  intro p l e R s m args below meth c D cA Z mc ms C H locs cells slots ls hR hH hq' hc hs hl
  exact lv_if_eq C.1 C.2.1 hd ht (fun h => (kt h p l e R s m args below meth c D cA Z mc ms C H locs cells slots ls hR hH hq' hc hs hl)) (fun h => (kf h p l e R s m args below meth c D cA Z mc ms C H locs cells slots ls hR hH hq' hc hs hl))
theorem kv_icmp_eq {x z : Int32} {off : Int} (tgt : Nat) (hd : decode y.2.2.1 pc = .ok (.if_icmp .eq off, 3)) (ht : (pc : Int) + off = (tgt : Int)) (kt : x = z → kv_V y d B Q kc ks n S I (tgt) L (st)) (kf : ¬ x = z → kv_V y d B Q kc ks n S I (pc + 3) L (st)) : kv_V y d B Q kc ks n S I (pc) L (.int z :: .int x :: st) := by
  intro p l e R s m args below meth c D cA Z mc ms C H locs cells slots ls hR hH hq' hc hs hl
  exact lv_icmp_eq C.1 C.2.1 hd ht (fun h => (kt h p l e R s m args below meth c D cA Z mc ms C H locs cells slots ls hR hH hq' hc hs hl)) (fun h => (kf h p l e R s m args below meth c D cA Z mc ms C H locs cells slots ls hR hH hq' hc hs hl))
theorem kv_if_ne {x : Int32} {off : Int} (tgt : Nat) (hd : decode y.2.2.1 pc = .ok (.ifCond .ne off, 3)) (ht : (pc : Int) + off = (tgt : Int)) (kt : ¬ x = 0 → kv_V y d B Q kc ks n S I (tgt) L (st)) (kf : x = 0 → kv_V y d B Q kc ks n S I (pc + 3) L (st)) : kv_V y d B Q kc ks n S I (pc) L (.int x :: st) := by
  intro p l e R s m args below meth c D cA Z mc ms C H locs cells slots ls hR hH hq' hc hs hl
  exact lv_if_ne C.1 C.2.1 hd ht (fun h => (kt h p l e R s m args below meth c D cA Z mc ms C H locs cells slots ls hR hH hq' hc hs hl)) (fun h => (kf h p l e R s m args below meth c D cA Z mc ms C H locs cells slots ls hR hH hq' hc hs hl))
theorem kv_icmp_ne {x z : Int32} {off : Int} (tgt : Nat) (hd : decode y.2.2.1 pc = .ok (.if_icmp .ne off, 3)) (ht : (pc : Int) + off = (tgt : Int)) (kt : ¬ x = z → kv_V y d B Q kc ks n S I (tgt) L (st)) (kf : x = z → kv_V y d B Q kc ks n S I (pc + 3) L (st)) : kv_V y d B Q kc ks n S I (pc) L (.int z :: .int x :: st) := by
  intro p l e R s m args below meth c D cA Z mc ms C H locs cells slots ls hR hH hq' hc hs hl
  exact lv_icmp_ne C.1 C.2.1 hd ht (fun h => (kt h p l e R s m args below meth c D cA Z mc ms C H locs cells slots ls hR hH hq' hc hs hl)) (fun h => (kf h p l e R s m args below meth c D cA Z mc ms C H locs cells slots ls hR hH hq' hc hs hl))
theorem kv_if_lt {x : Int32} {off : Int} (tgt : Nat) (hd : decode y.2.2.1 pc = .ok (.ifCond .lt off, 3)) (ht : (pc : Int) + off = (tgt : Int)) (kt : x < 0 → kv_V y d B Q kc ks n S I (tgt) L (st)) (kf : ¬ x < 0 → kv_V y d B Q kc ks n S I (pc + 3) L (st)) : kv_V y d B Q kc ks n S I (pc) L (.int x :: st) := by
  intro p l e R s m args below meth c D cA Z mc ms C H locs cells slots ls hR hH hq' hc hs hl
  exact lv_if_lt C.1 C.2.1 hd ht (fun h => (kt h p l e R s m args below meth c D cA Z mc ms C H locs cells slots ls hR hH hq' hc hs hl)) (fun h => (kf h p l e R s m args below meth c D cA Z mc ms C H locs cells slots ls hR hH hq' hc hs hl))
theorem kv_icmp_lt {x z : Int32} {off : Int} (tgt : Nat) (hd : decode y.2.2.1 pc = .ok (.if_icmp .lt off, 3)) (ht : (pc : Int) + off = (tgt : Int)) (kt : x < z → kv_V y d B Q kc ks n S I (tgt) L (st)) (kf : ¬ x < z → kv_V y d B Q kc ks n S I (pc + 3) L (st)) : kv_V y d B Q kc ks n S I (pc) L (.int z :: .int x :: st) := by
  intro p l e R s m args below meth c D cA Z mc ms C H locs cells slots ls hR hH hq' hc hs hl
  exact lv_icmp_lt C.1 C.2.1 hd ht (fun h => (kt h p l e R s m args below meth c D cA Z mc ms C H locs cells slots ls hR hH hq' hc hs hl)) (fun h => (kf h p l e R s m args below meth c D cA Z mc ms C H locs cells slots ls hR hH hq' hc hs hl))
theorem kv_if_ge {x : Int32} {off : Int} (tgt : Nat) (hd : decode y.2.2.1 pc = .ok (.ifCond .ge off, 3)) (ht : (pc : Int) + off = (tgt : Int)) (kt : 0 ≤ x → kv_V y d B Q kc ks n S I (tgt) L (st)) (kf : ¬ 0 ≤ x → kv_V y d B Q kc ks n S I (pc + 3) L (st)) : kv_V y d B Q kc ks n S I (pc) L (.int x :: st) := by
  intro p l e R s m args below meth c D cA Z mc ms C H locs cells slots ls hR hH hq' hc hs hl
  exact lv_if_ge C.1 C.2.1 hd ht (fun h => (kt h p l e R s m args below meth c D cA Z mc ms C H locs cells slots ls hR hH hq' hc hs hl)) (fun h => (kf h p l e R s m args below meth c D cA Z mc ms C H locs cells slots ls hR hH hq' hc hs hl))
theorem kv_icmp_ge {x z : Int32} {off : Int} (tgt : Nat) (hd : decode y.2.2.1 pc = .ok (.if_icmp .ge off, 3)) (ht : (pc : Int) + off = (tgt : Int)) (kt : z ≤ x → kv_V y d B Q kc ks n S I (tgt) L (st)) (kf : ¬ z ≤ x → kv_V y d B Q kc ks n S I (pc + 3) L (st)) : kv_V y d B Q kc ks n S I (pc) L (.int z :: .int x :: st) := by
  intro p l e R s m args below meth c D cA Z mc ms C H locs cells slots ls hR hH hq' hc hs hl
  exact lv_icmp_ge C.1 C.2.1 hd ht (fun h => (kt h p l e R s m args below meth c D cA Z mc ms C H locs cells slots ls hR hH hq' hc hs hl)) (fun h => (kf h p l e R s m args below meth c D cA Z mc ms C H locs cells slots ls hR hH hq' hc hs hl))
theorem kv_if_gt {x : Int32} {off : Int} (tgt : Nat) (hd : decode y.2.2.1 pc = .ok (.ifCond .gt off, 3)) (ht : (pc : Int) + off = (tgt : Int)) (kt : 0 < x → kv_V y d B Q kc ks n S I (tgt) L (st)) (kf : ¬ 0 < x → kv_V y d B Q kc ks n S I (pc + 3) L (st)) : kv_V y d B Q kc ks n S I (pc) L (.int x :: st) := by
  intro p l e R s m args below meth c D cA Z mc ms C H locs cells slots ls hR hH hq' hc hs hl
  exact lv_if_gt C.1 C.2.1 hd ht (fun h => (kt h p l e R s m args below meth c D cA Z mc ms C H locs cells slots ls hR hH hq' hc hs hl)) (fun h => (kf h p l e R s m args below meth c D cA Z mc ms C H locs cells slots ls hR hH hq' hc hs hl))
theorem kv_icmp_gt {x z : Int32} {off : Int} (tgt : Nat) (hd : decode y.2.2.1 pc = .ok (.if_icmp .gt off, 3)) (ht : (pc : Int) + off = (tgt : Int)) (kt : z < x → kv_V y d B Q kc ks n S I (tgt) L (st)) (kf : ¬ z < x → kv_V y d B Q kc ks n S I (pc + 3) L (st)) : kv_V y d B Q kc ks n S I (pc) L (.int z :: .int x :: st) := by
  intro p l e R s m args below meth c D cA Z mc ms C H locs cells slots ls hR hH hq' hc hs hl
  exact lv_icmp_gt C.1 C.2.1 hd ht (fun h => (kt h p l e R s m args below meth c D cA Z mc ms C H locs cells slots ls hR hH hq' hc hs hl)) (fun h => (kf h p l e R s m args below meth c D cA Z mc ms C H locs cells slots ls hR hH hq' hc hs hl))
theorem kv_if_le {x : Int32} {off : Int} (tgt : Nat) (hd : decode y.2.2.1 pc = .ok (.ifCond .le off, 3)) (ht : (pc : Int) + off = (tgt : Int)) (kt : x ≤ 0 → kv_V y d B Q kc ks n S I (tgt) L (st)) (kf : ¬ x ≤ 0 → kv_V y d B Q kc ks n S I (pc + 3) L (st)) : kv_V y d B Q kc ks n S I (pc) L (.int x :: st) := by
  intro p l e R s m args below meth c D cA Z mc ms C H locs cells slots ls hR hH hq' hc hs hl
  exact lv_if_le C.1 C.2.1 hd ht (fun h => (kt h p l e R s m args below meth c D cA Z mc ms C H locs cells slots ls hR hH hq' hc hs hl)) (fun h => (kf h p l e R s m args below meth c D cA Z mc ms C H locs cells slots ls hR hH hq' hc hs hl))
theorem kv_icmp_le {x z : Int32} {off : Int} (tgt : Nat) (hd : decode y.2.2.1 pc = .ok (.if_icmp .le off, 3)) (ht : (pc : Int) + off = (tgt : Int)) (kt : x ≤ z → kv_V y d B Q kc ks n S I (tgt) L (st)) (kf : ¬ x ≤ z → kv_V y d B Q kc ks n S I (pc + 3) L (st)) : kv_V y d B Q kc ks n S I (pc) L (.int z :: .int x :: st) := by
  intro p l e R s m args below meth c D cA Z mc ms C H locs cells slots ls hR hH hq' hc hs hl
  exact lv_icmp_le C.1 C.2.1 hd ht (fun h => (kt h p l e R s m args below meth c D cA Z mc ms C H locs cells slots ls hR hH hq' hc hs hl)) (fun h => (kf h p l e R s m args below meth c D cA Z mc ms C H locs cells slots ls hR hH hq' hc hs hl))
theorem kv_goto {off : Int} (tgt : Nat) (hd : decode y.2.2.1 pc = .ok (.goto off, 3)) (ht : (pc : Int) + off = (tgt : Int)) (k : kv_V y d B Q kc ks n S I (tgt) L (st)) : kv_V y d B Q kc ks n S I (pc) L (st) := by
  intro p l e R s m args below meth c D cA Z mc ms C H locs cells slots ls hR hH hq' hc hs hl
  exact lv_goto C.1 C.2.1 hd ht (k p l e R s m args below meth c D cA Z mc ms C H locs cells slots ls hR hH hq' hc hs hl)
theorem kv_tableOut {dflt lo hi : Int} {offs : Array Int} {len : Nat} {x : Int32} (tgt : Nat) (hd : decode y.2.2.1 pc = .ok (.tableswitch dflt lo hi offs, len)) (h : x.toInt < lo ∨ hi < x.toInt) (ht : (pc : Int) + dflt = (tgt : Int)) (k : kv_V y d B Q kc ks n S I (tgt) L (st)) : kv_V y d B Q kc ks n S I (pc) L (.int x :: st) := by
  intro p l e R s m args below meth c D cA Z mc ms C H locs cells slots ls hR hH hq' hc hs hl
  exact lv_tableOut C.1 C.2.1 hd h ht (k p l e R s m args below meth c D cA Z mc ms C H locs cells slots ls hR hH hq' hc hs hl)
theorem kv_tableIn {dflt lo hi : Int} {offs : Array Int} {len : Nat} {x : Int32} {off : Int} (tgt : Nat) (hd : decode y.2.2.1 pc = .ok (.tableswitch dflt lo hi offs, len)) (h1 : ¬ x.toInt < lo) (h2 : ¬ hi < x.toInt) (ho : offs[(x.toInt - lo).toNat]? = some off) (ht : (pc : Int) + off = (tgt : Int)) (k : kv_V y d B Q kc ks n S I (tgt) L (st)) : kv_V y d B Q kc ks n S I (pc) L (.int x :: st) := by
  intro p l e R s m args below meth c D cA Z mc ms C H locs cells slots ls hR hH hq' hc hs hl
  exact lv_tableIn C.1 C.2.1 hd h1 h2 ho ht (k p l e R s m args below meth c D cA Z mc ms C H locs cells slots ls hR hH hq' hc hs hl)
theorem kv_ldc {idx : Nat} {v : Int32} (hw : Cond.constant y.1 idx v ∈ kv_tb) (hd : decode y.2.2.1 pc = .ok (.ldc idx, 2)) (k : kv_V y d B Q kc ks n S I (pc + 2) L (.int v :: st)) : kv_V y d B Q kc ks n S I (pc) L (st) := by
  intro p l e R s m args below meth c D cA Z mc ms C H locs cells slots ls hR hH hq' hc hs hl
  exact lv_ldc C.1 C.2.1 C.2.2.2.1 (C.2.2.2.2.1 _ hw) hd (k p l e R s m args below meth c D cA Z mc ms C H locs cells slots ls hR hH hq' hc hs hl)
theorem kv_ldc2 {idx : Nat} {v : Int64} (hw : Cond.constantLong y.1 idx v ∈ kv_tb) (hd : decode y.2.2.1 pc = .ok (.ldc2_w idx, 3)) (k : kv_V y d B Q kc ks n S I (pc + 3) L (.long v :: st)) : kv_V y d B Q kc ks n S I (pc) L (st) := by
  intro p l e R s m args below meth c D cA Z mc ms C H locs cells slots ls hR hH hq' hc hs hl
  exact lv_ldc2 C.1 C.2.1 C.2.2.2.1 (C.2.2.2.2.1 _ hw) hd (k p l e R s m args below meth c D cA Z mc ms C H locs cells slots ls hR hH hq' hc hs hl)
end KVR
end
section
def kv_F (own : String) (idx ci k : Nat) (t : Bool) : Prop := ∃ (C : String) (T : u_T) (N : Nat), vwCl[ci]? = some (C, T, N) ∧ k < N ∧ (∀ w ∈ u_ws C T N, w ∈ kv_tb) ∧ (kv_flags ci)[k]? = some t ∧
  ((Cond.fieldLink own idx (T k).1 (T k).2.1 (T k).2.2.1 ∈ kv_tb) ∨ ∃ host, Cond.fieldLinkNest own idx (T k).1 (T k).2.1 (T k).2.2.1 host ∈ kv_nw)
def kv_G (own : String) (idx ci k : Nat) (t : Bool) (ty : FieldType) (fin : Bool) : Prop := ∃ (C : String) (T : u_T) (N : Nat) (ty0 : Nat → FieldType), vwCl[ci]? = some (C, T, N) ∧ k < N ∧ (∀ w ∈ u_ws C T N, w ∈ kv_tb) ∧ (kv_flags ci)[k]? = some t ∧
  (∀ j, j < N → parseFieldDescriptor (T j).2.2.1 = some (ty0 j)) ∧ (∀ a, a < N → ∀ b, b < N → a ≠ b → (T a).2.1 ≠ (T b).2.1) ∧ (T k).2.2.2 = fin ∧ parseFieldDescriptor (T k).2.2.1 = some ty ∧ (fin = true → (T k).1 = own) ∧
  ((Cond.fieldLink own idx (T k).1 (T k).2.1 (T k).2.2.1 ∈ kv_tb) ∨ (fin = false ∧ ∃ host, Cond.fieldLinkNest own idx (T k).1 (T k).2.1 (T k).2.2.1 host ∈ kv_nw))
section KVH
variable {y : kv_M} {d : Nat} {B : kv_B} {Q : kv_Q} {kc ks n : Nat} {S : kv_SM} {I : kv_IM} {pc : Nat} {L : List (Nat × Value)} {st : List Value}
theorem kv_get {idx ci k a : Nat} {t : Bool} {r : Nat → Option Nat} (F : kv_F y.1 idx ci k t) (hd : decode y.2.2.1 pc = .ok (.getfield idx, 3)) (hS : S a = kO ci r)
    (kk : kv_V y d B Q kc ks n S I (pc + 3) L ((if t = true then va_rf (r k) else .int (I a k)) :: st)) : kv_V y d B Q kc ks n S I pc L (.ref a :: st) := by
  intro p l e R s m args below meth c D cA Z mc ms C H locs cells slots ls hR hH hq' hc hs hl
  obtain ⟨C0, T, N, h1, h2, h3, h4, h5⟩ := F
  obtain ⟨i1, i2⟩ := hR.inO hS
  have he : (kv_ws B.1 n cA S I)[a - B.1]? = some (a, .inr (ci, kv_fs (kv_flags ci) r (I a))) := by
    have h := kv_ws_get (cA := cA) (S := S) (I := I) i1 i2
    rw [hS] at h
    exact h
  have hts := C.2.2.2.2.1
  have hnw := C.2.2.2.2.2.1
  have hK := C.2.2.2.2.2.2.1
  have kk' := kk p l e R s m args below meth c D cA Z mc ms C H locs cells slots ls hR hH hq' hc hs hl
  rcases h5 with h5 | ⟨host, h5⟩
  · exact va_get C.1 C.2.1 hts h3 C.2.2.2.1 hK hR.2.1 (a - B.1) he h1 k h2 (hts _ h5) (fun _ h9 => h9) (kv_fs_get h4) hd kk'
  · exact va_getN C.1 C.2.1 hts h3 C.2.2.2.1 hK hR.2.1 (a - B.1) he h1 k h2 (va_Nw.use rfl (hnw.1 _ h5)) (fun _ h9 => h9) (kv_fs_get h4) hd kk'
theorem kv_getI {idx ci k a : Nat} {r : Nat → Option Nat} (F : kv_F y.1 idx ci k false) (hd : decode y.2.2.1 pc = .ok (.getfield idx, 3)) (hS : S a = kO ci r)
    (kk : kv_V y d B Q kc ks n S I (pc + 3) L (.int (I a k) :: st)) : kv_V y d B Q kc ks n S I pc L (.ref a :: st) := kv_get F hd hS (by rw [if_neg (by decide)]; exact kk)
theorem kv_getR {idx ci k a a1 : Nat} {r : Nat → Option Nat} (F : kv_F y.1 idx ci k true) (hd : decode y.2.2.1 pc = .ok (.getfield idx, 3)) (hS : S a = kO ci r) (hr : r k = some a1)
    (kk : kv_V y d B Q kc ks n S I (pc + 3) L (.ref a1 :: st)) : kv_V y d B Q kc ks n S I pc L (.ref a :: st) := kv_get F hd hS (by rw [if_pos rfl, hr]; exact kk)
theorem kv_putW {idx ci k a : Nat} {t : Bool} {ty : FieldType} {fin : Bool} {r : Nat → Option Nat} {v : Value} {S' : kv_SM} {I' : kv_IM} (F : kv_G y.1 idx ci k t ty fin) (hf : fin = true → y.2.1.name = "<init>") (hd : decode y.2.2.1 pc = .ok (.putfield idx, 3)) (hS : S a = kO ci r) (hn : narrow ty v = v) (hfit : fits ty v = true)
    (he' : ∀ cA, kv_e cA (S' a) (I' a) = .inr (ci, (kv_fs (kv_flags ci) r (I a)).set k v)) (ho : ∀ q, q ≠ a → S' q = S q ∧ I' q = I q)
    (kk : kv_V y d B Q kc ks n S' I' (pc + 3) L st) : kv_V y d B Q kc ks n S I pc L (v :: .ref a :: st) := by
  intro p l e R s m args below meth c D cA Z mc ms C H locs cells slots ls hR hH hq' hc hs hl
  obtain ⟨C0, T, N, ty0, h1, h2, h3, h4, hty, hnm, hfin, hpd, hfo, h5⟩ := F
  obtain ⟨i1, i2⟩ := hR.inO hS
  have he : (kv_ws B.1 n cA S I)[a - B.1]? = some (a, .inr (ci, kv_fs (kv_flags ci) r (I a))) := by
    have h := kv_ws_get (cA := cA) (S := S) (I := I) i1 i2
    rw [hS] at h
    exact h
  have hts := C.2.2.2.2.1
  have hnw := C.2.2.2.2.2.1
  have hK := C.2.2.2.2.2.2.1
  have hown := C.2.2.2.1
  have hP := hR.2.1
  have hap := va_apart (own := y.1) hts h3 ty0 hty hnm hK h1
  obtain ⟨r0, g1, cell, q1, q2, q3, q4⟩ := hP (a - B.1) _ he
  have hr : r0 = (C0, T, N) := Option.some.inj (g1.symm.trans h1)
  subst hr
  obtain ⟨hSl, hfc, kC, hkC, hkind⟩ := hK.1 ci _ h1
  obtain ⟨cf, kf, fi, f, hi, hsl⟩ := hSl k h2
  have hst := (u_facts hfc hkC (u_lays hts h3 h2) hi).1
  have hl2 : k < (kv_fs (kv_flags ci) r (I a)).length := by rw [kv_fs_len]; exact (List.getElem?_eq_some_iff.mp h4).1
  have fin' : ∀ (H' : Heap), H'[a]? = some (cell.setSlot (D.2 ci k) v) → H'.size = H.size → (∀ q, q ≠ a → H'[q]? = H[q]?) → W p l e R s m args below meth c H' (locs ++ [⟨a, D.2 ci k⟩]) cells slots Z (F0 m (pc + 3) ls st) := by
    intro H' e1 e2 e3
    have hP' : va_P D vwCl ((kv_ws B.1 n cA S I).set (a - B.1) (a, .inr (ci, (kv_fs (kv_flags ci) r (I a)).set k v))) H' :=
      hP.set kv_ws_D he ⟨_, h1, t_OB.to (V := updV (vp_V (kv_fs (kv_flags ci) r (I a))) k v) ⟨_, e1, q2, q3, t_set q4 hap h2 v⟩ (fun j _ => vp_updV_set hl2 v j)⟩ e3
    refine kk p l e R s m args below meth c D cA Z mc ms C H' _ cells slots ls (hR.set i1 i2 e2 hP' (he' cA) ho) ?_ ?_ hc hs hl
    · rw [e3 _ (by have := C.2.2.2.2.2.2.2.2.2.1.1; omega)]
      exact hH
    · intro q hq
      rcases List.mem_append.mp hq with h | h
      · exact hq' q h
      · rw [List.mem_singleton.mp h]
        exact i1
  cases fin with
  | false =>
    have hlay := hts _ (h3 _ (u_in_lay h2))
    unfold u_lay at hlay
    rw [if_neg (by rw [hfin]; decide)] at hlay
    have h6 := u_store hfc hkC hkind hlay hi hpd hn hfit
    rcases h5 with h5 | ⟨-, host, h5⟩
    · refine W.putK C.1 C.2.1 (f := f) ⟨hown, hts _ h5, ⟨_, _, _, hi⟩, hst⟩ (by rw [q2]; exact h6) q1 q3 (by rw [hsl]; exact k2_hasslot (q4 k h2)) rfl rfl hd fun H' e1 e2 e3 => ?_
      rw [hsl] at e1 ⊢
      exact fin' H' e1 e2 e3
    · refine va_WputK C.1 C.2.1 (f := f) hown (va_Nw.use rfl (hnw.1 _ h5)) hi hst (by rw [q2]; exact h6) q1 q3 (by rw [hsl]; exact k2_hasslot (q4 k h2)) rfl rfl hd fun H' e1 e2 e3 => ?_
      rw [hsl] at e1 ⊢
      exact fin' H' e1 e2 e3
  | true =>
    have hlay := hts _ (h3 _ (u_in_lay h2))
    unfold u_lay at hlay
    rw [if_pos hfin] at hlay
    have hcf : m.cls = cf := by
      obtain ⟨_, _, c', _, _, _, -, -, hf', -, -, -, hown2, -⟩ := Cond.laysFinal_spec hlay
      have e1 : c' = cf := by have := hi.symm.trans hf'; simp at this; exact this.1.symm
      rw [hfo rfl] at hown2
      rw [← e1]; exact Option.some.inj (hown.symm.trans hown2)
    have h6 := u_fits hfc hkC hkind (Or.inr hlay) hi hpd hn hfit
    rcases h5 with h5 | ⟨h5, -⟩
    · refine W.putFinK C.1 C.2.1 hown (hts _ h5) hi hst hcf (C.2.2.2.2.2.2.2.2.1 (hf rfl)) (by rw [q2]; exact h6) q1 q3 (by rw [hsl]; exact k2_hasslot (q4 k h2)) rfl rfl hd fun H' e1 e2 e3 => ?_
      rw [hsl] at e1 ⊢
      exact fin' H' e1 e2 e3
    · cases h5
theorem kv_putI {idx ci k a : Nat} {ty : FieldType} {fin : Bool} {r : Nat → Option Nat} {x : Int32} (F : kv_G y.1 idx ci k false ty fin) (hf : fin = true → y.2.1.name = "<init>") (hd : decode y.2.2.1 pc = .ok (.putfield idx, 3)) (hS : S a = kO ci r) (hn : narrow ty (.int x) = .int x) (hfit : fits ty (.int x) = true)
    (kk : kv_V y d B Q kc ks n S (kv_up I a k x) (pc + 3) L st) : kv_V y d B Q kc ks n S I pc L (.int x :: .ref a :: st) := by
  obtain ⟨C0, T, N, ty0, h1, h2, h3, h4, h5⟩ := id F
  refine kv_putW F hf hd hS hn hfit (fun cA => ?_) (fun q hq => ⟨rfl, ?_⟩) kk
  · rw [hS]
    show Sum.inr (ci, kv_fs _ _ _) = _
    rw [kv_fs_setI h4 (f := I a) (x := x) (by simp [kv_up]) (fun j hj => by simp [kv_up, hj])]
  · funext j
    simp [kv_up, hq]
theorem kv_putR {idx ci k a v : Nat} {nm : FieldType} {fin : Bool} {r : Nat → Option Nat} (F : kv_G y.1 idx ci k true nm fin) (hf : fin = true → y.2.1.name = "<init>") (hd : decode y.2.2.1 pc = .ok (.putfield idx, 3)) (hS : S a = kO ci r) (hn : narrow nm (.ref v) = .ref v) (hfit : fits nm (.ref v) = true)
    (kk : kv_V y d B Q kc ks n (kv_su S a (kO ci (kv_ru r k (some v)))) I (pc + 3) L st) : kv_V y d B Q kc ks n S I pc L (.ref v :: .ref a :: st) := by
  obtain ⟨C0, T, N, ty0, h1, h2, h3, h4, h5⟩ := id F
  refine kv_putW F hf hd hS hn hfit (fun cA => ?_) (fun q hq => ⟨?_, rfl⟩) kk
  · have e : kv_su S a (kO ci (kv_ru r k (some v))) a = kO ci (kv_ru r k (some v)) := by simp [kv_su]
    rw [e]
    show Sum.inr (ci, kv_fs _ _ _) = _
    rw [kv_fs_setR h4 (r := r) (x := some v) (by simp [kv_ru]) (fun j hj => by simp [kv_ru, hj])]
    rfl
  · simp [kv_su, hq]
theorem kv_iald {a m' : Nat} {i : Int32} (j : Nat) (hd : decode y.2.2.1 pc = .ok (.iaload, 1)) (hS : S a = kI m') (hi : i = nI j) (hj : j < m') (hm : m' < 2 ^ 31)
    (kk : kv_V y d B Q kc ks n S I (pc + 1) L (.int (I a j) :: st)) : kv_V y d B Q kc ks n S I pc L (.int i :: .ref a :: st) := by
  intro p l e R s m args below meth c D cA Z mc ms C H locs cells slots ls hR hH hq' hc hs hl
  obtain ⟨i1, i2⟩ := hR.inI hS (by omega)
  have he : (kv_ws B.1 n cA S I)[a - B.1]? = some (a, .inl (cA 0, m', .inl (I a))) := by
    have h := kv_ws_get (cA := cA) (S := S) (I := I) i1 i2
    rw [hS] at h
    exact h
  subst hi
  refine va_iald C.1 C.2.1 C.2.2.2.2.2.2.1 hR.2.1 (a - B.1) 0 he rfl (vp_in_nI hj hm) hd ?_
  rw [nI_clamp (by omega)]
  exact kk p l e R s m args below meth c D cA Z mc ms C H locs cells slots ls hR hH hq' hc hs hl
theorem kv_iast {a m' : Nat} {i x : Int32} (j : Nat) (hd : decode y.2.2.1 pc = .ok (.iastore, 1)) (hS : S a = kI m') (hi : i = nI j) (hj : j < m') (hm : m' < 2 ^ 31)
    (kk : kv_V y d B Q kc ks n S (kv_up I a j x) (pc + 1) L st) : kv_V y d B Q kc ks n S I pc L (.int x :: .int i :: .ref a :: st) := by
  intro p l e R s m args below meth c D cA Z mc ms C H locs cells slots ls hR hH hq' hc hs hl
  obtain ⟨i1, i2⟩ := hR.inI hS (by omega)
  have he : (kv_ws B.1 n cA S I)[a - B.1]? = some (a, .inl (cA 0, m', .inl (I a))) := by
    have h := kv_ws_get (cA := cA) (S := S) (I := I) i1 i2
    rw [hS] at h
    exact h
  subst hi
  have hK := C.2.2.2.2.2.2.1
  refine W.iast C.1 C.2.1 (hR.2.1 _ _ he) ((hK.2 0 _ rfl).1 m' (fun j => .int (I a j))) (fun q => by cases q) (by show ¬ (_ < 0 ∨ (arrV _ _ _).slots.size ≤ _); rw [arrV_size]; exact vp_in_nI hj hm) rfl rfl hd fun H1 e1 z oq0 => ?_
  have oq : ∀ q : Nat, q ≠ a → H1[q]? = H[q]? := oq0
  rw [nI_clamp (by omega)] at e1 ⊢
  have hP' : va_P D vwCl ((kv_ws B.1 n cA S I).set (a - B.1) (a, .inl (cA 0, m', .inl (upd (I a) j x)))) H1 := by
    refine hR.2.1.set kv_ws_D he ?_ oq
    show H1[a]? = some (vp_cell _ _)
    rw [e1]
    rw [vp_cell_i, vp_cell_i, arrV_store]
    congr 2
    funext q
    by_cases hq : q = j
    · subst hq
      simp [updV, upd]
    · simp [updV, upd, hq]
  refine kk p l e R s m args below meth c D cA Z mc ms C H1 _ cells slots ls (hR.set i1 i2 z hP' ?_ (fun q hq => ⟨rfl, ?_⟩)) ?_ ?_ hc hs hl
  · rw [hS]
    have hf : kv_up I a j x a = upd (I a) j x := by
      funext q
      simp [kv_up, upd]
    show Sum.inl (cA 0, m', Sum.inl (kv_up I a j x a)) = _
    rw [hf]
  · funext j'
    simp [kv_up, hq]
  · rw [oq _ (by have := C.2.2.2.2.2.2.2.2.2.1.1; omega)]
    exact hH
  · intro q hq
    rcases List.mem_append.mp hq with h | h
    · exact hq' q h
    · rw [List.mem_singleton.mp h]
      exact i1
theorem kv_zald {a m' : Nat} {i : Int32} (j : Nat) (hd : decode y.2.2.1 pc = .ok (.baload, 1)) (hS : S a = kZ m') (hi : i = nI j) (hj : j < m') (hm : m' < 2 ^ 31)
    (kk : kv_V y d B Q kc ks n S I (pc + 1) L (.int (I a j) :: st)) : kv_V y d B Q kc ks n S I pc L (.int i :: .ref a :: st) := by
  intro p l e R s m args below meth c D cA Z mc ms C H locs cells slots ls hR hH hq' hc hs hl
  obtain ⟨i1, i2⟩ := hR.inI hS (by omega)
  have he : (kv_ws B.1 n cA S I)[a - B.1]? = some (a, .inl (cA 1, m', .inl (I a))) := by
    have h := kv_ws_get (cA := cA) (S := S) (I := I) i1 i2
    rw [hS] at h
    exact h
  subst hi
  refine va_zald C.1 C.2.1 C.2.2.2.2.2.2.1 hR.2.1 (a - B.1) 1 he rfl (vp_in_nI hj hm) hd ?_
  rw [nI_clamp (by omega)]
  exact kk p l e R s m args below meth c D cA Z mc ms C H locs cells slots ls hR hH hq' hc hs hl
theorem kv_zast {a m' : Nat} {i x : Int32} (j : Nat) (hx : x = 0 ∨ x = 1) (hd : decode y.2.2.1 pc = .ok (.bastore, 1)) (hS : S a = kZ m') (hi : i = nI j) (hj : j < m') (hm : m' < 2 ^ 31)
    (kk : kv_V y d B Q kc ks n S (kv_up I a j x) (pc + 1) L st) : kv_V y d B Q kc ks n S I pc L (.int x :: .int i :: .ref a :: st) := by
  intro p l e R s m args below meth c D cA Z mc ms C H locs cells slots ls hR hH hq' hc hs hl
  obtain ⟨i1, i2⟩ := hR.inI hS (by omega)
  have he : (kv_ws B.1 n cA S I)[a - B.1]? = some (a, .inl (cA 1, m', .inl (I a))) := by
    have h := kv_ws_get (cA := cA) (S := S) (I := I) i1 i2
    rw [hS] at h
    exact h
  subst hi
  have hK := C.2.2.2.2.2.2.1
  refine W.zast C.1 C.2.1 (hR.2.1 _ _ he) ((hK.2 1 _ rfl).1 m' (fun j => .int (I a j))) (fun q => by cases q) (by show ¬ (_ < 0 ∨ (arrV _ _ _).slots.size ≤ _); rw [arrV_size]; exact vp_in_nI hj hm) rfl rfl hd fun H1 e1 z oq0 => ?_
  have oq : ∀ q : Nat, q ≠ a → H1[q]? = H[q]? := oq0
  have hnx : narrow .boolean (.int x) = .int x := by rcases hx with rfl | rfl <;> rfl
  rw [nI_clamp (by omega)] at e1 ⊢
  rw [hnx] at e1
  have hP' : va_P D vwCl ((kv_ws B.1 n cA S I).set (a - B.1) (a, .inl (cA 1, m', .inl (upd (I a) j x)))) H1 := by
    refine hR.2.1.set kv_ws_D he ?_ oq
    show H1[a]? = some (vp_cell _ _)
    rw [e1]
    rw [vp_cell_i, vp_cell_i, arrV_store]
    congr 2
    funext q
    by_cases hq : q = j
    · subst hq
      simp [updV, upd]
    · simp [updV, upd, hq]
  refine kk p l e R s m args below meth c D cA Z mc ms C H1 _ cells slots ls (hR.set i1 i2 z hP' ?_ (fun q hq => ⟨rfl, ?_⟩)) ?_ ?_ hc hs hl
  · rw [hS]
    have hf : kv_up I a j x a = upd (I a) j x := by
      funext q
      simp [kv_up, upd]
    show Sum.inl (cA 1, m', Sum.inl (kv_up I a j x a)) = _
    rw [hf]
  · funext j'
    simp [kv_up, hq]
  · rw [oq _ (by have := C.2.2.2.2.2.2.2.2.2.1.1; omega)]
    exact hH
  · intro q hq
    rcases List.mem_append.mp hq with h | h
    · exact hq' q h
    · rw [List.mem_singleton.mp h]
      exact i1
theorem kv_alen {a m' : Nat} (hd : decode y.2.2.1 pc = .ok (.arraylength, 1)) (hS : S a = kI m') (h0 : 0 < m')
    (kk : kv_V y d B Q kc ks n S I (pc + 1) L (.int (nI m') :: st)) : kv_V y d B Q kc ks n S I pc L (.ref a :: st) := by
  intro p l e R s m args below meth c D cA Z mc ms C H locs cells slots ls hR hH hq' hc hs hl
  obtain ⟨i1, i2⟩ := hR.inI hS h0
  have he : (kv_ws B.1 n cA S I)[a - B.1]? = some (a, .inl (cA 0, m', .inl (I a))) := by
    have h := kv_ws_get (cA := cA) (S := S) (I := I) i1 i2
    rw [hS] at h
    exact h
  exact va_alen C.1 C.2.1 C.2.2.2.2.2.2.1 hR.2.1 (a - B.1) 0 he rfl (v := nI m') rfl hd (kk p l e R s m args below meth c D cA Z mc ms C H locs cells slots ls hR hH hq' hc hs hl)
theorem kv_aald {a ci m' a1 : Nat} {r : Nat → Option Nat} {i : Int32} (j : Nat) (hd : decode y.2.2.1 pc = .ok (.aaload, 1)) (hS : S a = kA ci m' r) (ht : ∃ (t0 : Nat) (Cn : String), ∀ cA : Nat → ClassId, (kv_tys cA)[t0]? = some (cA (ci + 2), FieldType.object Cn)) (hi : i = nI j) (hj : j < m') (hm : m' < 2 ^ 31) (hr : r j = some a1)
    (kk : kv_V y d B Q kc ks n S I (pc + 1) L (.ref a1 :: st)) : kv_V y d B Q kc ks n S I pc L (.int i :: .ref a :: st) := by
  intro p l e R s m args below meth c D cA Z mc ms C H locs cells slots ls hR hH hq' hc hs hl
  obtain ⟨i1, i2⟩ := hR.inA hS
  have he : (kv_ws B.1 n cA S I)[a - B.1]? = some (a, .inl (cA (ci + 2), m', .inr (.inr (.inr (.inr r))))) := by
    have h := kv_ws_get (cA := cA) (S := S) (I := I) i1 i2
    rw [hS] at h
    exact h
  subst hi
  obtain ⟨t0, Cn, ht⟩ := ht
  refine va_aldq C.1 C.2.1 C.2.2.2.2.2.2.1 hR.2.1 (a - B.1) t0 he (ht cA) (vp_in_nI hj hm) hd ?_
  rw [nI_clamp (by omega), hr]
  exact kk p l e R s m args below meth c D cA Z mc ms C H locs cells slots ls hR hH hq' hc hs hl
theorem kv_sld {i : Int32} (j : Nat) (hd : decode y.2.2.1 pc = .ok (.iaload, 1)) (hi : i = nI j) (hj : j < B.2.2.1) (hm : B.2.2.1 < 2 ^ 31)
    (kk : kv_V y d B Q kc ks n S I (pc + 1) L (.int (B.2.2.2 j) :: st)) : kv_V y d B Q kc ks n S I pc L (.int i :: .ref B.2.1 :: st) := by
  intro p l e R s m args below meth c D cA Z mc ms C H locs cells slots ls hR hH hq' hc hs hl
  subst hi
  obtain ⟨scr, h1, h2, h3, h4, h5⟩ := C.2.2.2.2.2.2.2.2.2.1.2
  refine W.iald (v := .int (B.2.2.2 j)) C.1 C.2.1 (by rw [hH]; exact h1) h2 h3 (by rw [h4]; exact vp_in_nI hj hm) (by rw [nI_clamp (by omega)]; exact h5 _ hj) rfl rfl hd ?_
  exact kk p l e R s m args below meth c D cA Z mc ms C H locs cells slots ls hR hH hq' hc hs hl
theorem kv_slen (hd : decode y.2.2.1 pc = .ok (.arraylength, 1))
    (kk : kv_V y d B Q kc ks n S I (pc + 1) L (.int (nI B.2.2.1) :: st)) : kv_V y d B Q kc ks n S I pc L (.ref B.2.1 :: st) := by
  intro p l e R s m args below meth c D cA Z mc ms C H locs cells slots ls hR hH hq' hc hs hl
  obtain ⟨scr, h1, h2, h3, h4, h5⟩ := C.2.2.2.2.2.2.2.2.2.1.2
  exact W.alen (n := nI B.2.2.1) C.1 C.2.1 (by rw [hH]; exact h1) h2 (by rw [h4] <;> rfl) rfl rfl hd (kk p l e R s m args below meth c D cA Z mc ms C H locs cells slots ls hR hH hq' hc hs hl)
end KVH
end
section
def kv_LB (yc : kv_M) (N : Nat) : Prop := Cond.code yc.2.1 yc.2.2.1 yc.2.2.2.1 yc.2.2.2.2 ∈ kv_tb ∧ Cond.initialized yc.2.1.cls ∈ kv_tb ∧ (yc.2.1.cls ≠ "java/lang/invoke/MethodHandle" ∧ yc.2.1.cls ≠ "java/lang/invoke/VarHandle") ∧ ((parseMethodDescriptor yc.2.1.desc).map (fun d => d.parameters.length) = some N) ∧ yc.2.2.2.1 ≤ 17
def kv_LK (own : String) (idx : Nat) (yc : kv_M) : Prop := Cond.methodLink own idx yc.2.1 ∈ kv_tb ∨ ∃ host, Cond.methodLinkNest own idx yc.2.1 host ∈ kv_nw
def kv_LS (own : String) (idx : Nat) (yc : kv_M) (N : Nat) : Prop := kv_LB yc N ∧ kv_LK own idx yc ∧ Cond.static yc.2.1 ∈ kv_tb
def kv_LV (own : String) (idx : Nat) (yc : kv_M) (N ci : Nat) : Prop := kv_LB yc N ∧ kv_LK own idx yc ∧ Cond.instanceMethod yc.2.1 ∈ kv_tb ∧ ∃ (q : vw_C), vwCl[ci]? = some q ∧ Cond.selects q.1 yc.2.1 yc.2.1 ∈ kv_tb
def kv_LI (own : String) (idx : Nat) (yc : kv_M) (N : Nat) : Prop := kv_LB yc N ∧ kv_LK own idx yc ∧ Cond.instanceMethod yc.2.1 ∈ kv_tb ∧ yc.2.1.name = "<init>" ∧ yc.2.2.2.2 = none
theorem kv_arity {ds : String} {N : Nat} (h : (parseMethodDescriptor ds).map (fun d => d.parameters.length) = some N) : ∀ sig, parseMethodDescriptor ds = some sig → N = sig.parameters.length := by
  intro sig hs
  rw [hs] at h
  exact (Option.some.inj h).symm
theorem kv_wd_good {yc : kv_M} (h : Cond.code yc.2.1 yc.2.2.1 yc.2.2.2.1 yc.2.2.2.2 ∈ kv_tb) : GoodIn kv_tb (kv_wd yc) := by
  intro w hw
  rcases List.mem_cons.mp hw with rfl | hw
  · exact kv_tb_good _ h
  · exact kv_tb_good _ hw
section KVC
variable {y : kv_M} {d : Nat} {B : kv_B} {Q : kv_Q} {kc ks n : Nat} {S : kv_SM} {I : kv_IM} {pc : Nat} {L : List (Nat × Value)} {st : List Value}
theorem kv_runW {p : Program} {l : Launch} {e : Env} {R : Room} {s : State} {m : MethodId} {args : Array Value} {below : List Frame} {meth : Method} {c : Code} {D : va_G} {cA : Nat → ClassId} {Z : State → Prop} {mc ms : Nat} {H : Heap} {locs : List Loc} {cells slots kcc ksc : Nat} {ls : Array Slot} {st0 rest : List Value} {Qy : kv_Q} {a : Array Value} (C : kv_C y d B Q p l e R s m args below meth c D cA Z mc ms) (hH : H[B.2.1]? = s.heap[B.2.1]?) (hq' : ∀ q ∈ locs, B.1 ≤ q.base) (hc : cells + kc ≤ mc) (hs : slots + ks ≤ ms) (hl : lv_has ls y.2.2.2.1 L) (h1 : kcc ≤ kc) (h2 : ksc ≤ ks)
    (hr : va_Run p l e R s m args below meth c H locs cells slots kcc ksc (F0 m pc ls st0) rest (kv_Qc B Qy D cA a) (fun q => B.1 ≤ q))
    (kk : ∀ v n' S' I', Qy v n' S' I' → kv_V y d B Q (kc - kcc) (ks - ksc) n' S' I' (pc + 3) L (v.toList ++ rest)) : W p l e R s m args below meth c H locs cells slots Z (F0 m pc ls st0) := by
  intro T hT X
  obtain ⟨v, st₀, t, T', LL, h0, X', hL, e1, e2, ⟨v', n', S', I', hv, hQ, hR', hH'⟩, stp⟩ := hr T hT X
  cases hv
  have hK := kk v n' S' I' hQ p l e R s m args below meth c D cA Z mc ms C T'.heap (locs ++ LL) (cells + kcc) (slots + ksc) ls (by rw [e1]; exact hR') (by rw [e1, hH', h0]; exact hH) (fun q hq => by
    rcases List.mem_append.mp hq with h | h
    · exact hq' q h
    · exact hL q h) (by omega) (by omega) hl
  obtain ⟨t2, a1, b1⟩ := hK T' rfl X'
  exact ⟨t2, stp t2 a1, b1⟩
theorem kv_callS {yc : kv_M} {idx dc kcc ksc : Nat} (As rest : List Value) {Qy : kv_Q} (hlk : kv_LS y.1 idx yc As.length) (hM : kv_T yc dc kcc ksc B As n S I Qy) (hd : decode y.2.2.1 pc = .ok (.invokestatic idx, 3)) (hst : st = As.reverse ++ rest) (hdep : dc + 1 ≤ d) (hw : (rest.map fun v => v.category).sum ≤ 8) (h1 : kcc ≤ kc) (h2 : ksc ≤ ks)
    (kk : ∀ v n' S' I', Qy v n' S' I' → kv_V y d B Q (kc - kcc) (ks - ksc) n' S' I' (pc + 3) L (v.toList ++ rest)) : kv_V y d B Q kc ks n S I pc L st := by
  intro p l e R s m args below meth c D cA Z mc ms C H locs cells slots ls hR hH hq' hc hs hl
  obtain ⟨⟨g1, g2, g3, g4, g5⟩, glk, gst⟩ := hlk
  obtain ⟨k1, k2, k3, k4, hts, hnw, hK, ⟨kd1, kd2, kd3, kd4⟩, -, ⟨kb, kX⟩, -⟩ := id C
  have hpre : PreS s H (kv_Pc As B n S I D cA) As := ⟨kv_Pc_blind, fun U hU hW => kv_Pc_at hU hW hK hR hnw kb kX hH⟩
  refine kv_runW C hH hq' hc hs hl h1 h2 (a := As.toArray) (rest := rest) ?_ kk
  rcases glk with glk | ⟨host, glk⟩
  · exact va_runS (bytes := yc.2.2.1) (maxL := yc.2.2.2.1) (ret := yc.2.2.2.2) ⟨k1, k2, k3, k4, hts⟩ (hM l D cA) ⟨⟨rfl, rfl, by show dc + 1 ≤ _; omega, by show 8 + (_ + 11) + 36 * dc ≤ _; omega, pay_in hts (kv_wd_good g1), List.mem_cons_self, hts _ g1, hts _ g2, g3, kv_arity g4, hts _ glk⟩, hts _ gst⟩ hpre rfl rfl hl.1 hst (lv_room hw) hd ⟨by omega, by omega⟩
  · exact va_runSN (bytes := yc.2.2.1) (maxL := yc.2.2.2.1) (ret := yc.2.2.2.2) ⟨k1, k2, k3, k4, hts⟩ (hM l D cA) ⟨⟨⟨rfl, rfl, by show dc + 1 ≤ _; omega, by show 8 + (_ + 11) + 36 * dc ≤ _; omega, pay_in hts (kv_wd_good g1), List.mem_cons_self⟩, hts _ g1, hts _ g2, g3, kv_arity g4, va_Nw.use rfl (hnw.1 _ glk)⟩, hts _ gst, trivial⟩ hpre rfl rfl hl.1 hst (lv_room hw) hd ⟨by omega, by omega⟩
theorem kv_callV {yc : kv_M} {idx dc kcc ksc ci b : Nat} {r : Nat → Option Nat} (As rest : List Value) {Qy : kv_Q} (hlk : kv_LV y.1 idx yc As.length ci) (hS : S b = kO ci r) (hM : kv_T yc dc kcc ksc B (.ref b :: As) n S I Qy) (hd : decode y.2.2.1 pc = .ok (.invokevirtual idx, 3)) (hst : st = As.reverse ++ .ref b :: rest) (hdep : dc + 1 ≤ d) (hw : (rest.map fun v => v.category).sum ≤ 8) (h1 : kcc ≤ kc) (h2 : ksc ≤ ks)
    (kk : ∀ v n' S' I', Qy v n' S' I' → kv_V y d B Q (kc - kcc) (ks - ksc) n' S' I' (pc + 3) L (v.toList ++ rest)) : kv_V y d B Q kc ks n S I pc L st := by
  intro p l e R s m args below meth c D cA Z mc ms C H locs cells slots ls hR hH hq' hc hs hl
  obtain ⟨⟨g1, g2, g3, g4, g5⟩, glk, gin, q, gq, gsel⟩ := hlk
  obtain ⟨k1, k2, k3, k4, hts, hnw, hK, ⟨kd1, kd2, kd3, kd4⟩, -, ⟨kb, kX⟩, -⟩ := id C
  obtain ⟨i1, i2⟩ := hR.inO hS
  have he : (kv_ws B.1 n cA S I)[b - B.1]? = some (b, .inr (ci, kv_fs (kv_flags ci) r (I b))) := by
    have h := kv_ws_get (cA := cA) (S := S) (I := I) i1 i2
    rw [hS] at h
    exact h
  have hpre : PreV s H q.1 b (kv_Pc (.ref b :: As) B n S I D cA) As := ⟨kv_Pc_blind, va_recv hK hR.2.1 gq he, fun U hU hW => kv_Pc_at hU hW hK hR hnw kb kX hH⟩
  refine kv_runW C hH hq' hc hs hl h1 h2 (a := (Value.ref b :: As).toArray) (rest := rest) ?_ kk
  rcases glk with glk | ⟨host, glk⟩
  · exact va_runV (bytes := yc.2.2.1) (maxL := yc.2.2.2.1) (ret := yc.2.2.2.2) ⟨k1, k2, k3, k4, hts⟩ (hM l D cA) ⟨⟨rfl, rfl, by show dc + 1 ≤ _; omega, by show 8 + (_ + 11) + 36 * dc ≤ _; omega, pay_in hts (kv_wd_good g1), List.mem_cons_self, hts _ g1, hts _ g2, g3, kv_arity g4, hts _ glk⟩, hts _ gin, hts _ gsel⟩ hpre rfl rfl hl.1 hst (lv_room hw) hd ⟨by omega, by omega⟩
  · exact va_runVN (bytes := yc.2.2.1) (maxL := yc.2.2.2.1) (ret := yc.2.2.2.2) ⟨k1, k2, k3, k4, hts⟩ (hM l D cA) ⟨⟨⟨rfl, rfl, by show dc + 1 ≤ _; omega, by show 8 + (_ + 11) + 36 * dc ≤ _; omega, pay_in hts (kv_wd_good g1), List.mem_cons_self⟩, hts _ g1, hts _ g2, g3, kv_arity g4, va_Nw.use rfl (hnw.1 _ glk)⟩, hts _ gin, hts _ gsel⟩ hpre rfl rfl hl.1 hst (lv_room hw) hd ⟨by omega, by omega⟩
theorem kv_callI {yc : kv_M} {idx dc kcc ksc b : Nat} (As rest : List Value) {Qy : kv_Q} (hlk : kv_LI y.1 idx yc As.length) (hM : kv_T yc dc kcc ksc B (.ref b :: As) n S I Qy) (hd : decode y.2.2.1 pc = .ok (.invokespecial idx, 3)) (hst : st = As.reverse ++ .ref b :: rest) (hdep : dc + 1 ≤ d) (hw : (rest.map fun v => v.category).sum ≤ 8) (h1 : kcc ≤ kc) (h2 : ksc ≤ ks)
    (kk : ∀ v n' S' I', Qy v n' S' I' → kv_V y d B Q (kc - kcc) (ks - ksc) n' S' I' (pc + 3) L (v.toList ++ rest)) : kv_V y d B Q kc ks n S I pc L st := by
  intro p l e R s m args below meth c D cA Z mc ms C H locs cells slots ls hR hH hq' hc hs hl
  obtain ⟨⟨g1, g2, g3, g4, g5⟩, glk, gin, gnm, grt⟩ := hlk
  obtain ⟨k1, k2, k3, k4, hts, hnw, hK, ⟨kd1, kd2, kd3, kd4⟩, -, ⟨kb, kX⟩, -⟩ := id C
  rw [grt] at g1
  have hpre : PreS s H (kv_Pc (.ref b :: As) B n S I D cA) (.ref b :: As) := ⟨kv_Pc_blind, fun U hU hW => kv_Pc_at hU hW hK hR hnw kb kX hH⟩
  have hgd : GoodIn kv_tb (kv_wd yc) := kv_wd_good (by rw [grt]; exact g1)
  have hcd : Cond.code yc.2.1 yc.2.2.1 yc.2.2.2.1 none ∈ kv_wd yc := by unfold kv_wd; rw [grt]; exact List.mem_cons_self
  refine kv_runW C hH hq' hc hs hl h1 h2 (a := (Value.ref b :: As).toArray) (rest := rest) ?_ kk
  rcases glk with glk | ⟨host, glk⟩
  · exact va_runI (bytes := yc.2.2.1) (maxL := yc.2.2.2.1) ⟨k1, k2, k3, k4, hts⟩ (hM l D cA) ⟨⟨rfl, rfl, by show dc + 1 ≤ _; omega, by show 8 + (_ + 11) + 36 * dc ≤ _; omega, pay_in hts hgd, hcd, hts _ g1, hts _ g2, g3, kv_arity g4, hts _ glk⟩, gnm, hts _ gin⟩ hpre rfl rfl hl.1 hst (lv_room hw) hd ⟨by omega, by omega⟩
  · exact va_runIN (bytes := yc.2.2.1) (maxL := yc.2.2.2.1) ⟨k1, k2, k3, k4, hts⟩ (hM l D cA) ⟨⟨⟨rfl, rfl, by show dc + 1 ≤ _; omega, by show 8 + (_ + 11) + 36 * dc ≤ _; omega, pay_in hts hgd, hcd⟩, hts _ g1, hts _ g2, g3, kv_arity g4, va_Nw.use rfl (hnw.1 _ glk)⟩, gnm, hts _ gin⟩ hpre rfl rfl hl.1 hst (lv_room hw) hd ⟨by omega, by omega⟩
theorem kv_objInit {idx a : Nat} (h1 : Cond.methodLink y.1 idx objectInit ∈ kv_tb) (h2 : Cond.instanceMethod objectInit ∈ kv_tb) (h3 : Cond.code objectInit ⟨#[0xb1]⟩ 1 none ∈ kv_tb) (hd : decode y.2.2.1 pc = .ok (.invokespecial idx, 3)) (hdep : 1 ≤ d) (hw : (st.map fun v => v.category).sum ≤ 8)
    (kk : kv_V y d B Q kc ks n S I (pc + 3) L st) : kv_V y d B Q kc ks n S I pc L (.ref a :: st) := by
  intro p l e R s m args below meth c D cA Z mc ms C H locs cells slots ls hR hH hq' hc hs hl
  obtain ⟨k1, k2, k3, k4, hts, hnw, hK, ⟨kd1, kd2, kd3, kd4⟩, -, ⟨kb, kX⟩, -⟩ := id C
  refine W.objInit C.1 C.2.1 k4 (hts _ h1) (hts _ h2) (hts _ h3) rfl (by rw [k3]; exact hl.1) rfl hd (by omega) (by show 2 * 0 + _ + 12 ≤ _; omega) ?_
  exact kk p l e R s m args below meth c D cA Z mc ms C H locs cells slots ls hR hH hq' hc hs hl
theorem kv_mmin {idx : Nat} {x z : Int32} (h1 : Cond.methodLink y.1 idx Lib.Math.min.name ∈ kv_tb) (h2 : Cond.static Lib.Math.min.name ∈ kv_tb) (h3 : Cond.initialized "java/lang/Math" ∈ kv_tb) (h4 : Cond.code Lib.Math.min.name Lib.Math.min.code 2 (some .int) ∈ kv_tb) (hd : decode y.2.2.1 pc = .ok (.invokestatic idx, 3)) (hdep : 1 ≤ d) (hw : (st.map fun v => v.category).sum ≤ 8)
    (kk : kv_V y d B Q kc ks n S I (pc + 3) L (.int (if z < x then z else x) :: st)) : kv_V y d B Q kc ks n S I pc L (.int z :: .int x :: st) := by
  intro p l e R s m args below meth c D cA Z mc ms C H locs cells slots ls hR hH hq' hc hs hl
  obtain ⟨k1, k2, k3, k4, hts, hnw, hK, ⟨kd1, kd2, kd3, kd4⟩, -, ⟨kb, kX⟩, -⟩ := id C
  exact va_mmin C.1 C.2.1 (by rw [k3]; exact hl.1.symm) k4 (hts _ h1) (hts _ h2) (hts _ h3) (hts _ h4) (by omega) (by omega) (by omega) (by omega) hd (kk p l e R s m args below meth c D cA Z mc ms C H locs cells slots ls hR hH hq' hc hs hl)
theorem kv_mmax {idx : Nat} {x z : Int32} (h1 : Cond.methodLink y.1 idx Lib.Math.max.name ∈ kv_tb) (h2 : Cond.static Lib.Math.max.name ∈ kv_tb) (h3 : Cond.initialized "java/lang/Math" ∈ kv_tb) (h4 : Cond.code Lib.Math.max.name Lib.Math.max.code 2 (some .int) ∈ kv_tb) (hd : decode y.2.2.1 pc = .ok (.invokestatic idx, 3)) (hdep : 1 ≤ d) (hw : (st.map fun v => v.category).sum ≤ 8)
    (kk : kv_V y d B Q kc ks n S I (pc + 3) L (.int (if x < z then z else x) :: st)) : kv_V y d B Q kc ks n S I pc L (.int z :: .int x :: st) := by
  intro p l e R s m args below meth c D cA Z mc ms C H locs cells slots ls hR hH hq' hc hs hl
  obtain ⟨k1, k2, k3, k4, hts, hnw, hK, ⟨kd1, kd2, kd3, kd4⟩, -, ⟨kb, kX⟩, -⟩ := id C
  exact va_mmax C.1 C.2.1 (by rw [k3]; exact hl.1.symm) k4 (hts _ h1) (hts _ h2) (hts _ h3) (hts _ h4) (by omega) (by omega) (by omega) (by omega) hd (kk p l e R s m args below meth c D cA Z mc ms C H locs cells slots ls hR hH hq' hc hs hl)
end KVC
end
section
theorem kv_R.push {b n : Nat} {D : va_G} {cA : Nat → ClassId} {S : kv_SM} {I : kv_IM} {H H1 : Heap} (h : kv_R b n D cA S I H) {x : kv_Sh} {f : Nat → Int32} (z1 : H1.size = b + n + 1) (o1 : ∀ q, q < b + n → H1[q]? = H[q]?) (he : va_at D vwCl (b + n, kv_e cA x f) H1) : kv_R b (n + 1) D cA (kv_su S (b + n) x) (kv_iu I (b + n) f) H1 := by
  refine ⟨by omega, fun k q hk => ?_, fun a ha => ?_⟩
  · obtain ⟨hk1, rfl⟩ := kv_ws_mem hk
    by_cases hkn : k = n
    · subst hkn
      have e1 : kv_su S (b + k) x (b + k) = x := by simp [kv_su]
      have e2 : kv_iu I (b + k) f (b + k) = f := by simp [kv_iu]
      rw [e1, e2]
      exact he
    · have e1 : kv_su S (b + n) x (b + k) = S (b + k) := by simp [kv_su, hkn]
      have e2 : kv_iu I (b + n) f (b + k) = I (b + k) := by simp [kv_iu, hkn]
      rw [e1, e2]
      exact (h.at (a := b + k) (by omega) (by omega)).kept (o1 _ (show b + k < b + n by omega))
  · have e1 : kv_su S (b + n) x a = S a := by
      unfold kv_su
      rw [if_neg (by omega)]
    rw [e1]
    exact h.2.2 a (by omega)
def kv_NW (own : String) (idx ci N : Nat) : Prop := ∃ (C : String) (T : u_T) (ty0 : Nat → FieldType), vwCl[ci]? = some (C, T, N) ∧ (∀ w ∈ u_ws C T N, w ∈ kv_tb) ∧ (∀ j, j < N → parseFieldDescriptor (T j).2.2.1 = some (ty0 j)) ∧ (∀ j, j < N → defaultValue (ty0 j) = vp_V (kv_fs (kv_flags ci) (fun _ => none) (fun _ => 0)) j) ∧ Cond.classLink own idx C ∈ kv_tb ∧ Cond.instantiable C N ∈ kv_tb ∧ Cond.initialized C ∈ kv_tb
section KVA
variable {y : kv_M} {d : Nat} {B : kv_B} {Q : kv_Q} {kc ks n : Nat} {S : kv_SM} {I : kv_IM} {pc : Nat} {L : List (Nat × Value)} {st : List Value}
theorem kv_new {idx ci N : Nat} (F : kv_NW y.1 idx ci N) (hd : decode y.2.2.1 pc = .ok (.new idx, 3)) (h1 : 1 ≤ kc) (h2 : N ≤ ks)
    (kk : kv_V y d B Q (kc - 1) (ks - N) (n + 1) (kv_su S (B.1 + n) (kO ci (fun _ => none))) (kv_iu I (B.1 + n) (fun _ => 0)) (pc + 3) L (.ref (B.1 + n) :: st)) : kv_V y d B Q kc ks n S I pc L st := by
  intro p l e R s m args below meth c D cA Z mc ms C H locs cells slots ls hR hH hq' hc hs hl
  obtain ⟨C0, T, ty0, g1, g2, g3, g4, g5, g6, g7⟩ := F
  obtain ⟨k1, k2, k3, k4, hts, hnw, hK, ⟨kd1, kd2, kd3, kd4⟩, -, ⟨kb, kX⟩, -⟩ := id C
  have hKn := hK.1 ci _ g1
  refine W.newcK C.1 C.2.1 k4 (hts _ g5) (hts _ g6) (hts _ g7) rfl hd (by omega) (by omega) hKn.2.1 hR.1 fun H1 kC hkC e1 z1 o1 => ?_
  refine kk p l e R s m args below meth c D cA Z mc ms C H1 locs (cells + 1) (slots + N) ls (hR.push z1 o1 ⟨_, g1, (u_born ty0 hts g2 hKn hkC e1 g3).to g4⟩) ?_ hq' (by omega) (by omega) hl
  rw [o1 _ (by omega)]
  exact hH
theorem kv_newI {x : Int32} (N : Nat) (harr : Cond.arrayClass .int ∈ kv_tb) (hd : decode y.2.2.1 pc = .ok (.newarray .int, 2)) (hx : x = nI N) (hN : N < 100000000) (h1 : 1 ≤ kc) (h2 : N ≤ ks)
    (kk : kv_V y d B Q (kc - 1) (ks - N) (n + 1) (kv_su S (B.1 + n) (kI N)) (kv_iu I (B.1 + n) (fun _ => 0)) (pc + 2) L (.ref (B.1 + n) :: st)) : kv_V y d B Q kc ks n S I pc L (.int x :: st) := by
  intro p l e R s m args below meth c D cA Z mc ms C H locs cells slots ls hR hH hq' hc hs hl
  obtain ⟨k1, k2, k3, k4, hts, hnw, hK, ⟨kd1, kd2, kd3, kd4⟩, -, ⟨kb, kX⟩, -⟩ := id C
  subst hx
  refine va_newaK C.1 C.2.1 (atype := .int) (hts _ harr) rfl hd rfl (nI_pos (by omega)) (N := N) (nI_clamp (by omega)) (by show N * 4 ≤ 536870912; omega) (by omega) (by omega) hR.1 fun H1 cA' e1 z1 o1 hAr hNm => ?_
  have hcA : cA' = cA 0 := by
    have h3 : s.vm.findClass ("[" ++ FieldType.int.toString) = some (cA 0) := (hK.2 0 _ rfl).2
    exact Option.some.inj (hNm.symm.trans h3)
  subst hcA
  refine kk p l e R s m args below meth c D cA Z mc ms C H1 locs (cells + 1) (slots + N) ls (hR.push z1 o1 e1) ?_ hq' (by omega) (by omega) hl
  rw [o1 _ (by omega)]
  exact hH
theorem kv_newA {x : Int32} {idx ci t0 : Nat} {Cn : String} (N : Nat) (ht : ∀ cA : Nat → ClassId, (kv_tys cA)[t0]? = some (cA (ci + 2), FieldType.object Cn)) (hao : Cn ∈ kv_ao) (hcl : Cond.classLink y.1 idx Cn ∈ kv_tb) (hd : decode y.2.2.1 pc = .ok (.anewarray idx, 3)) (hx : x = nI N) (hN : N < 100000000) (h1 : 1 ≤ kc) (h2 : N ≤ ks)
    (kk : kv_V y d B Q (kc - 1) (ks - N) (n + 1) (kv_su S (B.1 + n) (kA ci N (fun _ => none))) (kv_iu I (B.1 + n) (fun _ => 0)) (pc + 3) L (.ref (B.1 + n) :: st)) : kv_V y d B Q kc ks n S I pc L (.int x :: st) := by
  intro p l e R s m args below meth c D cA Z mc ms C H locs cells slots ls hR hH hq' hc hs hl
  obtain ⟨k1, k2, k3, k4, hts, hnw, hK, ⟨kd1, kd2, kd3, kd4⟩, -, ⟨kb, kX⟩, -⟩ := id C
  subst hx
  have hcl0 := nI_clamp (n := N) (by omega)
  refine W.anew C.1 C.2.1 k4 (hts _ hcl) (va_AO.use (hnw.2 _ hao)) rfl hd rfl (nI_pos (by omega)) (by rw [hcl0]; omega) (by omega) (by rw [hcl0]; omega) fun cA' kA comp f1 f2 f3 f4 => ?_
  have hcA : cA' = cA (ci + 2) := by
    obtain ⟨-, -, -, -, -, h3⟩ := (hK.2 t0 _ (ht cA)).2
    exact Option.some.inj (f1.symm.trans h3)
  subst hcA
  rw [hcl0, hR.1]
  refine kk p l e R s m args below meth c D cA Z mc ms C _ locs (cells + 1) (slots + N) ls (hR.push ?_ ?_ ?_) ?_ hq' (by omega) (by omega) hl
  · rw [Array.size_push, hR.1]
  · intro q hq
    rw [Array.getElem?_push, if_neg (by rw [hR.1]; omega)]
  · show (H.push _)[B.1 + n]? = some (arrV (cA (ci + 2)) N (fun _ => Value.null))
    rw [← hR.1, Array.getElem?_push_size, ← arrV_new]
  · rw [Array.getElem?_push, if_neg (by rw [hR.1]; omega)]
    exact hH
theorem kv_aast {a ci m' v : Nat} {r rv : Nat → Option Nat} {i : Int32} (j : Nat) {q : vw_C} (hd : decode y.2.2.1 pc = .ok (.aastore, 1)) (hS : S a = kA ci m' r) (hv : S v = kO ci rv) (hq0 : vwCl[ci]? = some q) (ht : ∃ t0 : Nat, ∀ cA : Nat → ClassId, (kv_tys cA)[t0]? = some (cA (ci + 2), FieldType.object q.1)) (hi : i = nI j) (hj : j < m') (hm : m' < 2 ^ 31)
    (kk : kv_V y d B Q kc ks n (kv_su S a (kA ci m' (kv_ru r j (some v)))) I (pc + 1) L st) : kv_V y d B Q kc ks n S I pc L (.ref v :: .int i :: .ref a :: st) := by
  intro p l e R s m args below meth c D cA Z mc ms C H locs cells slots ls hR hH hq' hc hs hl
  obtain ⟨i1, i2⟩ := hR.inA hS
  obtain ⟨j1, j2⟩ := hR.inO hv
  have he : (kv_ws B.1 n cA S I)[a - B.1]? = some (a, .inl (cA (ci + 2), m', .inr (.inr (.inr (.inr r))))) := by
    have h := kv_ws_get (cA := cA) (S := S) (I := I) i1 i2
    rw [hS] at h
    exact h
  have hev : (kv_ws B.1 n cA S I)[v - B.1]? = some (v, .inr (ci, kv_fs (kv_flags ci) rv (I v))) := by
    have h := kv_ws_get (cA := cA) (S := S) (I := I) j1 j2
    rw [hv] at h
    exact h
  subst hi
  obtain ⟨t0, ht⟩ := ht
  have hK := C.2.2.2.2.2.2.1
  have hP := hR.2.1
  obtain ⟨r', hr', cellV, g1, g2, g3, -⟩ := hP _ _ hev
  have hcls := (hK.1 ci q hq0).2
  obtain ⟨kA0, comp, k1, k2, k3, -⟩ := (hK.2 t0 _ (ht cA)).2
  have hcomp : comp = D.1 ci := Option.some.inj (k3.symm.trans hcls.1)
  subst hcomp
  obtain ⟨kC, hkC, -⟩ := hcls.2
  refine W.aast C.1 C.2.1 (hP _ _ he) (fun q h => by cases h) (fun h => by cases h) k1 k2 rfl hkC ⟨nI_pos (by omega), by show _ < (arrV _ _ _).slots.size; rw [arrV_size, nI_clamp (by omega)]; exact hj⟩ g1 (fun q h => by rw [g3] at h; cases h) (by rw [g2]; exact hkC) (by rw [g2]; exact va_assign hcls) rfl rfl hd fun H1 e1 z oq0 => ?_
  have oq : ∀ q : Nat, q ≠ a → H1[q]? = H[q]? := oq0
  rw [nI_clamp (by omega)] at e1 ⊢
  have hP' : va_P D vwCl ((kv_ws B.1 n cA S I).set (a - B.1) (a, .inl (cA (ci + 2), m', .inr (.inr (.inr (.inr (kv_ru r j (some v)))))))) H1 := by
    refine hP.set kv_ws_D he ?_ oq
    show H1[a]? = some (vp_cell _ _)
    rw [e1]
    rw [vp_cell_q, vp_cell_q, arrV_store]
    congr 2
    funext q
    by_cases hq : q = j
    · subst hq
      simp [updV, kv_ru, va_rf]
    · simp [updV, kv_ru, hq]
  refine kk p l e R s m args below meth c D cA Z mc ms C H1 _ cells slots ls (hR.set i1 i2 z hP' ?_ (fun q hq => ⟨?_, rfl⟩)) ?_ ?_ hc hs hl
  · have e2 : kv_su S a (kA ci m' (kv_ru r j (some v))) a = kA ci m' (kv_ru r j (some v)) := by simp [kv_su]
    rw [e2]
    rfl
  · simp [kv_su, hq]
  · rw [oq _ (by have := C.2.2.2.2.2.2.2.2.2.1.1; omega)]
    exact hH
  · intro q hq
    rcases List.mem_append.mp hq with h | h
    · exact hq' q h
    · rw [List.mem_singleton.mp h]
      exact i1
theorem kv_copy {idx a0 a1 n0 n1 : Nat} {xs xd xn : Int32} (sp dp N : Nat) (h1 : Cond.methodLink y.1 idx arraycopyName ∈ kv_tb) (h2 : Cond.native arraycopyName ∈ kv_tb) (h3 : Cond.static arraycopyName ∈ kv_tb) (h4 : Cond.initialized "java/lang/System" ∈ kv_tb) (hd : decode y.2.2.1 pc = .ok (.invokestatic idx, 3)) (hdep : 1 ≤ d) (hw : (st.map fun v => v.category).sum ≤ 8)
    (hS0 : S a0 = kI n0) (hS1 : S a1 = kI n1) (z0 : 0 < n0) (z1 : 0 < n1) (m0 : n0 < 2 ^ 30) (m1 : n1 < 2 ^ 30) (es : xs = nI sp) (ed : xd = nI dp) (en : xn = nI N) (b0 : sp + N ≤ n0) (b1 : dp + N ≤ n1)
    (kk : kv_V y d B Q kc ks n S (kv_cp I a0 a1 sp dp N) (pc + 3) L st) : kv_V y d B Q kc ks n S I pc L (.int xn :: .int xd :: .ref a1 :: .int xs :: .ref a0 :: st) := by
  intro p l e R s m args below meth c D cA Z mc ms C H locs cells slots ls hR hH hq' hc hs hl
  obtain ⟨k1, k2, k3, k4, hts, hnw, hK, ⟨kd1, kd2, kd3, kd4⟩, -, ⟨kb, kX⟩, -⟩ := id C
  obtain ⟨i1, i2⟩ := hR.inI hS1 z1
  obtain ⟨j1, j2⟩ := hR.inI hS0 z0
  have he : (kv_ws B.1 n cA S I)[a1 - B.1]? = some (a1, .inl (cA 0, n1, .inl (I a1))) := by
    have h := kv_ws_get (cA := cA) (S := S) (I := I) i1 i2
    rw [hS1] at h
    exact h
  have he0 : (kv_ws B.1 n cA S I)[a0 - B.1]? = some (a0, .inl (cA 0, n0, .inl (I a0))) := by
    have h := kv_ws_get (cA := cA) (S := S) (I := I) j1 j2
    rw [hS0] at h
    exact h
  subst es ed en
  have hP := hR.2.1
  have c1 := nI_clamp (n := sp) (by omega)
  have c2 := nI_clamp (n := dp) (by omega)
  have c3 := nI_clamp (n := N) (by omega)
  have t1 := nI_toInt (n := sp) (by omega)
  have t2 := nI_toInt (n := dp) (by omega)
  have t3 := nI_toInt (n := N) (by omega)
  intro T hT X
  have hc0 : H[a0]? = some (vp_cell (cA 0) (n0, .inl (I a0))) := hP _ _ he0
  have hc1 : H[a1]? = some (vp_cell (cA 0) (n1, .inl (I a1))) := hP _ _ he
  obtain ⟨-, kk0, hk0, cm0, hkk0⟩ := (hK.2 0 _ rfl).1 n0 (fun j => .int (I a0 j))
  obtain ⟨vm', X', step⟩ := X.arraycopy C.1 k4 (hts _ h1) (hts _ h2) (hts _ h3) (hts _ h4) (src := a0) (dst := a1) (cs := vp_cell (cA 0) (n0, .inl (I a0))) (cd := vp_cell (cA 0) (n1, .inl (I a1))) (srcPos := nI sp) (destPos := nI dp) (n := nI N) (by rw [hT]; exact hc0) (by rw [hT]; exact hc1)
    (fun _ h => by cases h) (fun _ h => by cases h) (fun h => by cases h) (fun h => by cases h) hk0 hk0 hkk0 hkk0 (by simp [refKind]) (nI_pos (by omega)) (nI_pos (by omega)) (nI_pos (by omega))
    (by rw [t1, t3]; show ¬ _ > ((arrV _ n0 (fun j => .int (I a0 j))).slots.size : Int); rw [arrV_size]; omega)
    (by rw [t2, t3]; show ¬ _ > ((arrV _ n1 (fun j => .int (I a1 j))).slots.size : Int); rw [arrV_size]; omega)
    (fun vm₁ _ i hi => by
      rw [c3] at hi
      have e : (vp_cell (cA 0) (n0, .inl (I a0))).slots.getD ((nI sp).toNatClampNeg + i) .null = .int (I a0 ((nI sp).toNatClampNeg + i)) := by
        show (arrV _ n0 (fun j => .int (I a0 j))).slots.getD _ _ = _
        rw [Array.getD_eq_getD_getElem?, arrV_read _ _ (by rw [c1]; omega)]
        rfl
      refine ⟨?_, ?_⟩
      · rw [e]
        rfl
      · rw [e]
        exact trivial)
    (g := F0 m pc ls (.int (nI N) :: .int (nI dp) :: .ref a1 :: .int (nI sp) :: .ref a0 :: st)) rfl (by rw [k3]; exact hl.1) (rest := st) rfl (by rw [k2]; exact hd) (by omega) (by
      have : nativeFrameWords "java/lang/System" "arraycopy" 5 + 11 ≤ 28 := by decide
      show 2 * 0 + _ + _ ≤ _; omega)
  have e1 : copied (vp_cell (cA 0) (n0, .inl (I a0))) (vp_cell (cA 0) (n1, .inl (I a1))) (nI sp) (nI dp) (nI N) = vp_cell (cA 0) (n1, .inl (va_cpy (I a0) (I a1) sp dp N)) := by
    have h := va_copied (fun z => .int z) (cA 0) (cA 0) (n0 := n0) (n1 := n1) (sp := (nI sp).toNatClampNeg) (dp := (nI dp).toNatClampNeg) (n := (nI N).toNatClampNeg) (I a0) (I a1) (by rw [c1, c3]; exact b0)
    rw [c1, c2, c3] at h
    have h' : copied (vp_cell (cA 0) (n0, .inl (I a0))) (vp_cell (cA 0) (n1, .inl (I a1))) (nI sp) (nI dp) (nI N) = (arrV (cA 0) n1 (fun j => .int (I a1 j))).storeRun (nI dp).toNatClampNeg ((arrV (cA 0) n0 (fun j => .int (I a0 j))).stretch (nI sp).toNatClampNeg (nI N).toNatClampNeg) := rfl
    rw [h', c1, c2, c3]
    exact h
  rw [e1] at X' step
  have hlt : a1 < H.size := (Array.getElem?_eq_some_iff.mp hc1).1
  have hheap : ((T.setVm vm').setCell a1 (vp_cell (cA 0) (n1, .inl (va_cpy (I a0) (I a1) sp dp N)))).heap = H.setIfInBounds a1 (vp_cell (cA 0) (n1, .inl (va_cpy (I a0) (I a1) sp dp N))) := by rw [← hT]; rfl
  have oq : ∀ q : Nat, q ≠ a1 → (H.setIfInBounds a1 (vp_cell (cA 0) (n1, .inl (va_cpy (I a0) (I a1) sp dp N))))[q]? = H[q]? := fun q hq => by simp [Array.getElem?_setIfInBounds, Ne.symm hq]
  have hP' := hP.set kv_ws_D he (e := .inl (cA 0, n1, .inl (va_cpy (I a0) (I a1) sp dp N))) (H1 := H.setIfInBounds a1 (vp_cell (cA 0) (n1, .inl (va_cpy (I a0) (I a1) sp dp N)))) (show (H.setIfInBounds a1 _)[a1]? = some _ by simp [Array.getElem?_setIfInBounds, hlt]) oq
  obtain ⟨t, a2, b2⟩ := kk p l e R s m args below meth c D cA Z mc ms C _ _ cells slots ls (hR.set (S' := S) (I' := kv_cp I a0 a1 sp dp N) i1 i2 (by simp) hP' (by
      rw [hS1]
      have hf : kv_cp I a0 a1 sp dp N a1 = va_cpy (I a0) (I a1) sp dp N := by
        funext q
        simp [kv_cp]
      show Sum.inl (cA 0, n1, Sum.inl (kv_cp I a0 a1 sp dp N a1)) = _
      rw [hf]) (fun q hq => ⟨rfl, by funext j; simp [kv_cp, hq]⟩)) (by
      rw [oq _ (by omega)]
      exact hH) (fun q hq => by
      rcases List.mem_append.mp hq with h | h
      · exact hq' q h
      · obtain ⟨z, -, hz⟩ := List.mem_map.mp h
        rw [← hz]
        exact i1) hc hs hl _ hheap X'
  exact ⟨t, step t a2, b2⟩
end KVA
end
