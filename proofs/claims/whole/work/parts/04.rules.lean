theorem kv_lkm {i : Nat} {v : Value} : ∀ {L : List (Nat × Value)}, L.lookup i = some v → (i, v) ∈ L
  | [], h => by cases h
  | (j, w) :: L, h => by
    rw [List.lookup_cons] at h
    by_cases hj : i = j
    · subst hj
      simp at h
      subst h
      exact List.mem_cons_self
    · have hb : (i == j) = false := by simp [hj]
      rw [hb] at h
      exact List.mem_cons_of_mem _ (kv_lkm h)
theorem kv_lk {ls : Array Slot} {nL i : Nat} {v : Value} {L : List (Nat × Value)} (hl : lv_has ls nL L) (h : L.lookup i = some v) : ls[i]? = some (.val v) := hl.2.2 (i, v) (kv_lkm h)
section KVR
variable {y : kv_M} {d : Nat} {B : kv_B} {Q : kv_Q} {kc ks n : Nat} {S : kv_SM} {I : kv_IM} {pc : Nat} {L : List (Nat × Value)} {st : List Value}
theorem kv_iconst {i : Int} {v : Int32} (hd : decode y.2.2.1 pc = .ok (.iconst i, 1)) (hv : Int32.ofInt i = v) (k : kv_V y d B Q kc ks n S I (pc + 1) L (.int v :: st)) : kv_V y d B Q kc ks n S I (pc) L (st) := by
  intro p l e R s m args below meth c D cA Z mc ms C H locs cells slots ls hR hH hq' hc hs hl
  exact lv_iconst C.1 C.2.1 hd hv (k p l e R s m args below meth c D cA Z mc ms C H locs cells slots ls hR hH hq' hc hs hl)
theorem kv_bipush {i : Int} {v : Int32} (hd : decode y.2.2.1 pc = .ok (.bipush i, 2)) (hv : (Int8.ofInt i).toInt32 = v) (k : kv_V y d B Q kc ks n S I (pc + 2) L (.int v :: st)) : kv_V y d B Q kc ks n S I (pc) L (st) := by
  intro p l e R s m args below meth c D cA Z mc ms C H locs cells slots ls hR hH hq' hc hs hl
  exact lv_bipush C.1 C.2.1 hd hv (k p l e R s m args below meth c D cA Z mc ms C H locs cells slots ls hR hH hq' hc hs hl)
theorem kv_sipush {i : Int} {v : Int32} (hd : decode y.2.2.1 pc = .ok (.sipush i, 3)) (hv : (Int16.ofInt i).toInt32 = v) (k : kv_V y d B Q kc ks n S I (pc + 3) L (.int v :: st)) : kv_V y d B Q kc ks n S I (pc) L (st) := by
  intro p l e R s m args below meth c D cA Z mc ms C H locs cells slots ls hR hH hq' hc hs hl
  exact lv_sipush C.1 C.2.1 hd hv (k p l e R s m args below meth c D cA Z mc ms C H locs cells slots ls hR hH hq' hc hs hl)
theorem kv_lconst {i : Fin 2} {v : Int64} (hd : decode y.2.2.1 pc = .ok (.lconst i, 1)) (hv : Int64.ofNat (i : Nat) = v) (k : kv_V y d B Q kc ks n S I (pc + 1) L (.long v :: st)) : kv_V y d B Q kc ks n S I (pc) L (st) := by
  intro p l e R s m args below meth c D cA Z mc ms C H locs cells slots ls hR hH hq' hc hs hl
  exact lv_lconst C.1 C.2.1 hd hv (k p l e R s m args below meth c D cA Z mc ms C H locs cells slots ls hR hH hq' hc hs hl)
theorem kv_iadd {x z : Int32} (hd : decode y.2.2.1 pc = .ok (.iadd, 1))  (k : kv_V y d B Q kc ks n S I (pc + 1) L (.int (x + z) :: st)) : kv_V y d B Q kc ks n S I (pc) L (.int z :: .int x :: st) := by
  intro p l e R s m args below meth c D cA Z mc ms C H locs cells slots ls hR hH hq' hc hs hl
  exact lv_iadd C.1 C.2.1 hd  (k p l e R s m args below meth c D cA Z mc ms C H locs cells slots ls hR hH hq' hc hs hl)
theorem kv_isub {x z : Int32} (hd : decode y.2.2.1 pc = .ok (.isub, 1))  (k : kv_V y d B Q kc ks n S I (pc + 1) L (.int (x - z) :: st)) : kv_V y d B Q kc ks n S I (pc) L (.int z :: .int x :: st) := by
  intro p l e R s m args below meth c D cA Z mc ms C H locs cells slots ls hR hH hq' hc hs hl
  exact lv_isub C.1 C.2.1 hd  (k p l e R s m args below meth c D cA Z mc ms C H locs cells slots ls hR hH hq' hc hs hl)
theorem kv_imul {x z : Int32} (hd : decode y.2.2.1 pc = .ok (.imul, 1))  (k : kv_V y d B Q kc ks n S I (pc + 1) L (.int (x * z) :: st)) : kv_V y d B Q kc ks n S I (pc) L (.int z :: .int x :: st) := by
  intro p l e R s m args below meth c D cA Z mc ms C H locs cells slots ls hR hH hq' hc hs hl
  exact lv_imul C.1 C.2.1 hd  (k p l e R s m args below meth c D cA Z mc ms C H locs cells slots ls hR hH hq' hc hs hl)
theorem kv_iand {x z : Int32} (hd : decode y.2.2.1 pc = .ok (.iand, 1))  (k : kv_V y d B Q kc ks n S I (pc + 1) L (.int (x &&& z) :: st)) : kv_V y d B Q kc ks n S I (pc) L (.int z :: .int x :: st) := by
  intro p l e R s m args below meth c D cA Z mc ms C H locs cells slots ls hR hH hq' hc hs hl
  exact lv_iand C.1 C.2.1 hd  (k p l e R s m args below meth c D cA Z mc ms C H locs cells slots ls hR hH hq' hc hs hl)
theorem kv_ior {x z : Int32} (hd : decode y.2.2.1 pc = .ok (.ior, 1))  (k : kv_V y d B Q kc ks n S I (pc + 1) L (.int (x ||| z) :: st)) : kv_V y d B Q kc ks n S I (pc) L (.int z :: .int x :: st) := by
  intro p l e R s m args below meth c D cA Z mc ms C H locs cells slots ls hR hH hq' hc hs hl
  exact lv_ior C.1 C.2.1 hd  (k p l e R s m args below meth c D cA Z mc ms C H locs cells slots ls hR hH hq' hc hs hl)
theorem kv_ixor {x z : Int32} (hd : decode y.2.2.1 pc = .ok (.ixor, 1))  (k : kv_V y d B Q kc ks n S I (pc + 1) L (.int (x ^^^ z) :: st)) : kv_V y d B Q kc ks n S I (pc) L (.int z :: .int x :: st) := by
  intro p l e R s m args below meth c D cA Z mc ms C H locs cells slots ls hR hH hq' hc hs hl
  exact lv_ixor C.1 C.2.1 hd  (k p l e R s m args below meth c D cA Z mc ms C H locs cells slots ls hR hH hq' hc hs hl)
theorem kv_ishl {x z : Int32} (hd : decode y.2.2.1 pc = .ok (.ishl, 1))  (k : kv_V y d B Q kc ks n S I (pc + 1) L (.int (x <<< (z &&& 31)) :: st)) : kv_V y d B Q kc ks n S I (pc) L (.int z :: .int x :: st) := by
  intro p l e R s m args below meth c D cA Z mc ms C H locs cells slots ls hR hH hq' hc hs hl
  exact lv_ishl C.1 C.2.1 hd  (k p l e R s m args below meth c D cA Z mc ms C H locs cells slots ls hR hH hq' hc hs hl)
theorem kv_ishr {x z : Int32} (hd : decode y.2.2.1 pc = .ok (.ishr, 1))  (k : kv_V y d B Q kc ks n S I (pc + 1) L (.int (x >>> (z &&& 31)) :: st)) : kv_V y d B Q kc ks n S I (pc) L (.int z :: .int x :: st) := by
  intro p l e R s m args below meth c D cA Z mc ms C H locs cells slots ls hR hH hq' hc hs hl
  exact lv_ishr C.1 C.2.1 hd  (k p l e R s m args below meth c D cA Z mc ms C H locs cells slots ls hR hH hq' hc hs hl)
theorem kv_iushr {x z : Int32} (hd : decode y.2.2.1 pc = .ok (.iushr, 1))  (k : kv_V y d B Q kc ks n S I (pc + 1) L (.int ((x.toUInt32 >>> (z.toUInt32 &&& Int32.toUInt32 31)).toInt32) :: st)) : kv_V y d B Q kc ks n S I (pc) L (.int z :: .int x :: st) := by
  intro p l e R s m args below meth c D cA Z mc ms C H locs cells slots ls hR hH hq' hc hs hl
  exact lv_iushr C.1 C.2.1 hd rfl (k p l e R s m args below meth c D cA Z mc ms C H locs cells slots ls hR hH hq' hc hs hl)
theorem kv_idiv {x z : Int32} (hd : decode y.2.2.1 pc = .ok (.idiv, 1)) (hne : ¬ z = 0) (k : kv_V y d B Q kc ks n S I (pc + 1) L (.int (x / z) :: st)) : kv_V y d B Q kc ks n S I (pc) L (.int z :: .int x :: st) := by
  intro p l e R s m args below meth c D cA Z mc ms C H locs cells slots ls hR hH hq' hc hs hl
  exact lv_idiv C.1 C.2.1 hd hne (k p l e R s m args below meth c D cA Z mc ms C H locs cells slots ls hR hH hq' hc hs hl)
theorem kv_irem {x z : Int32} (hd : decode y.2.2.1 pc = .ok (.irem, 1)) (hne : ¬ z = 0) (k : kv_V y d B Q kc ks n S I (pc + 1) L (.int (x - x / z * z) :: st)) : kv_V y d B Q kc ks n S I (pc) L (.int z :: .int x :: st) := by
  intro p l e R s m args below meth c D cA Z mc ms C H locs cells slots ls hR hH hq' hc hs hl
  exact lv_irem C.1 C.2.1 hd hne (k p l e R s m args below meth c D cA Z mc ms C H locs cells slots ls hR hH hq' hc hs hl)
theorem kv_ineg {x : Int32} (hd : decode y.2.2.1 pc = .ok (.ineg, 1))  (k : kv_V y d B Q kc ks n S I (pc + 1) L (.int (-x) :: st)) : kv_V y d B Q kc ks n S I (pc) L (.int x :: st) := by
  intro p l e R s m args below meth c D cA Z mc ms C H locs cells slots ls hR hH hq' hc hs hl
  exact lv_ineg C.1 C.2.1 hd  (k p l e R s m args below meth c D cA Z mc ms C H locs cells slots ls hR hH hq' hc hs hl)
theorem kv_ladd {x z : Int64} (hd : decode y.2.2.1 pc = .ok (.ladd, 1))  (k : kv_V y d B Q kc ks n S I (pc + 1) L (.long (x + z) :: st)) : kv_V y d B Q kc ks n S I (pc) L (.long z :: .long x :: st) := by
  intro p l e R s m args below meth c D cA Z mc ms C H locs cells slots ls hR hH hq' hc hs hl
  exact lv_ladd C.1 C.2.1 hd  (k p l e R s m args below meth c D cA Z mc ms C H locs cells slots ls hR hH hq' hc hs hl)
theorem kv_lsub {x z : Int64} (hd : decode y.2.2.1 pc = .ok (.lsub, 1))  (k : kv_V y d B Q kc ks n S I (pc + 1) L (.long (x - z) :: st)) : kv_V y d B Q kc ks n S I (pc) L (.long z :: .long x :: st) := by
  intro p l e R s m args below meth c D cA Z mc ms C H locs cells slots ls hR hH hq' hc hs hl
  exact lv_lsub C.1 C.2.1 hd  (k p l e R s m args below meth c D cA Z mc ms C H locs cells slots ls hR hH hq' hc hs hl)
theorem kv_lmul {x z : Int64} (hd : decode y.2.2.1 pc = .ok (.lmul, 1))  (k : kv_V y d B Q kc ks n S I (pc + 1) L (.long (x * z) :: st)) : kv_V y d B Q kc ks n S I (pc) L (.long z :: .long x :: st) := by
  intro p l e R s m args below meth c D cA Z mc ms C H locs cells slots ls hR hH hq' hc hs hl
  exact lv_lmul C.1 C.2.1 hd  (k p l e R s m args below meth c D cA Z mc ms C H locs cells slots ls hR hH hq' hc hs hl)
theorem kv_land {x z : Int64} (hd : decode y.2.2.1 pc = .ok (.land, 1))  (k : kv_V y d B Q kc ks n S I (pc + 1) L (.long (x &&& z) :: st)) : kv_V y d B Q kc ks n S I (pc) L (.long z :: .long x :: st) := by
  intro p l e R s m args below meth c D cA Z mc ms C H locs cells slots ls hR hH hq' hc hs hl
  exact lv_land C.1 C.2.1 hd  (k p l e R s m args below meth c D cA Z mc ms C H locs cells slots ls hR hH hq' hc hs hl)
theorem kv_lor {x z : Int64} (hd : decode y.2.2.1 pc = .ok (.lor, 1))  (k : kv_V y d B Q kc ks n S I (pc + 1) L (.long (x ||| z) :: st)) : kv_V y d B Q kc ks n S I (pc) L (.long z :: .long x :: st) := by
  intro p l e R s m args below meth c D cA Z mc ms C H locs cells slots ls hR hH hq' hc hs hl
  exact lv_lor C.1 C.2.1 hd  (k p l e R s m args below meth c D cA Z mc ms C H locs cells slots ls hR hH hq' hc hs hl)
theorem kv_lxor {x z : Int64} (hd : decode y.2.2.1 pc = .ok (.lxor, 1))  (k : kv_V y d B Q kc ks n S I (pc + 1) L (.long (x ^^^ z) :: st)) : kv_V y d B Q kc ks n S I (pc) L (.long z :: .long x :: st) := by
  intro p l e R s m args below meth c D cA Z mc ms C H locs cells slots ls hR hH hq' hc hs hl
  exact lv_lxor C.1 C.2.1 hd  (k p l e R s m args below meth c D cA Z mc ms C H locs cells slots ls hR hH hq' hc hs hl)
theorem kv_ldiv {x z : Int64} (hd : decode y.2.2.1 pc = .ok (.ldiv, 1)) (hne : ¬ z = 0) (k : kv_V y d B Q kc ks n S I (pc + 1) L (.long (x / z) :: st)) : kv_V y d B Q kc ks n S I (pc) L (.long z :: .long x :: st) := by
  intro p l e R s m args below meth c D cA Z mc ms C H locs cells slots ls hR hH hq' hc hs hl
  exact lv_ldiv C.1 C.2.1 hd hne (k p l e R s m args below meth c D cA Z mc ms C H locs cells slots ls hR hH hq' hc hs hl)
theorem kv_lrem {x z : Int64} (hd : decode y.2.2.1 pc = .ok (.lrem, 1)) (hne : ¬ z = 0) (k : kv_V y d B Q kc ks n S I (pc + 1) L (.long (x - x / z * z) :: st)) : kv_V y d B Q kc ks n S I (pc) L (.long z :: .long x :: st) := by
  intro p l e R s m args below meth c D cA Z mc ms C H locs cells slots ls hR hH hq' hc hs hl
  exact lv_lrem C.1 C.2.1 hd hne (k p l e R s m args below meth c D cA Z mc ms C H locs cells slots ls hR hH hq' hc hs hl)
theorem kv_lcmp {x z : Int64} (hd : decode y.2.2.1 pc = .ok (.lcmp, 1))  (k : kv_V y d B Q kc ks n S I (pc + 1) L (.int (lg_cmp x z) :: st)) : kv_V y d B Q kc ks n S I (pc) L (.long z :: .long x :: st) := by
  intro p l e R s m args below meth c D cA Z mc ms C H locs cells slots ls hR hH hq' hc hs hl
  exact W.lcmp C.1 C.2.1 hd  (k p l e R s m args below meth c D cA Z mc ms C H locs cells slots ls hR hH hq' hc hs hl)
theorem kv_i2l {x : Int32} (hd : decode y.2.2.1 pc = .ok (.i2l, 1))  (k : kv_V y d B Q kc ks n S I (pc + 1) L (.long x.toInt64 :: st)) : kv_V y d B Q kc ks n S I (pc) L (.int x :: st) := by
  intro p l e R s m args below meth c D cA Z mc ms C H locs cells slots ls hR hH hq' hc hs hl
  exact lv_i2l C.1 C.2.1 hd rfl (k p l e R s m args below meth c D cA Z mc ms C H locs cells slots ls hR hH hq' hc hs hl)
theorem kv_l2i {x : Int64} (hd : decode y.2.2.1 pc = .ok (.l2i, 1))  (k : kv_V y d B Q kc ks n S I (pc + 1) L (.int x.toInt32 :: st)) : kv_V y d B Q kc ks n S I (pc) L (.long x :: st) := by
  intro p l e R s m args below meth c D cA Z mc ms C H locs cells slots ls hR hH hq' hc hs hl
  exact lv_l2i C.1 C.2.1 hd rfl (k p l e R s m args below meth c D cA Z mc ms C H locs cells slots ls hR hH hq' hc hs hl)
theorem kv_lushr {x : Int64} {z : Int32} (hd : decode y.2.2.1 pc = .ok (.lushr, 1))  (k : kv_V y d B Q kc ks n S I (pc + 1) L (.long ((x.toUInt64 >>> (z.toInt64.toUInt64 &&& Int64.toUInt64 63)).toInt64) :: st)) : kv_V y d B Q kc ks n S I (pc) L (.int z :: .long x :: st) := by
  intro p l e R s m args below meth c D cA Z mc ms C H locs cells slots ls hR hH hq' hc hs hl
  exact lv_lushr C.1 C.2.1 hd rfl (k p l e R s m args below meth c D cA Z mc ms C H locs cells slots ls hR hH hq' hc hs hl)
theorem kv_lshl {x : Int64} {z : Int32} (hd : decode y.2.2.1 pc = .ok (.lshl, 1))  (k : kv_V y d B Q kc ks n S I (pc + 1) L (.long (x <<< (z.toInt64 &&& 63)) :: st)) : kv_V y d B Q kc ks n S I (pc) L (.int z :: .long x :: st) := by
  intro p l e R s m args below meth c D cA Z mc ms C H locs cells slots ls hR hH hq' hc hs hl
  exact lv_lshl C.1 C.2.1 hd rfl (k p l e R s m args below meth c D cA Z mc ms C H locs cells slots ls hR hH hq' hc hs hl)
theorem kv_dup {va : Value} (hd : decode y.2.2.1 pc = .ok (.dup, 1)) (hva : va.category = 1) (k : kv_V y d B Q kc ks n S I (pc + 1) L (va :: va :: st)) : kv_V y d B Q kc ks n S I (pc) L (va :: st) := by
  intro p l e R s m args below meth c D cA Z mc ms C H locs cells slots ls hR hH hq' hc hs hl
  exact lv_dup C.1 C.2.1 hd hva (k p l e R s m args below meth c D cA Z mc ms C H locs cells slots ls hR hH hq' hc hs hl)
theorem kv_pop {va : Value} (hd : decode y.2.2.1 pc = .ok (.pop, 1)) (hva : va.category = 1) (k : kv_V y d B Q kc ks n S I (pc + 1) L (st)) : kv_V y d B Q kc ks n S I (pc) L (va :: st) := by
  intro p l e R s m args below meth c D cA Z mc ms C H locs cells slots ls hR hH hq' hc hs hl
  exact lv_pop C.1 C.2.1 hd hva (k p l e R s m args below meth c D cA Z mc ms C H locs cells slots ls hR hH hq' hc hs hl)
theorem kv_dup2 {va vb : Value} (hd : decode y.2.2.1 pc = .ok (.dup2, 1)) (hva : va.category = 1) (hvb : vb.category = 1) (k : kv_V y d B Q kc ks n S I (pc + 1) L (va :: vb :: va :: vb :: st)) : kv_V y d B Q kc ks n S I (pc) L (va :: vb :: st) := by
  intro p l e R s m args below meth c D cA Z mc ms C H locs cells slots ls hR hH hq' hc hs hl
  exact lv_dup2_11 C.1 C.2.1 hd hva hvb (k p l e R s m args below meth c D cA Z mc ms C H locs cells slots ls hR hH hq' hc hs hl)
theorem kv_dup_x1 {va vb : Value} (hd : decode y.2.2.1 pc = .ok (.dup_x1, 1)) (hva : va.category = 1) (hvb : vb.category = 1) (k : kv_V y d B Q kc ks n S I (pc + 1) L (va :: vb :: va :: st)) : kv_V y d B Q kc ks n S I (pc) L (va :: vb :: st) := by
  intro p l e R s m args below meth c D cA Z mc ms C H locs cells slots ls hR hH hq' hc hs hl
  exact lv_dup_x1 C.1 C.2.1 hd hva hvb (k p l e R s m args below meth c D cA Z mc ms C H locs cells slots ls hR hH hq' hc hs hl)
theorem kv_iload_n {i : Fin 4} {x : Int32} (hd : decode y.2.2.1 pc = .ok (.iload_n i, 1)) (hm : L.lookup (i : Nat) = some (.int x)) (k : kv_V y d B Q kc ks n S I (pc + 1) L (.int x :: st)) : kv_V y d B Q kc ks n S I (pc) L (st) := by
  intro p l e R s m args below meth c D cA Z mc ms C H locs cells slots ls hR hH hq' hc hs hl
  exact lv_iload_n C.1 C.2.1 hd rfl (kv_lk hl hm) (k p l e R s m args below meth c D cA Z mc ms C H locs cells slots ls hR hH hq' hc hs hl)
theorem kv_iload {i : Nat} {x : Int32} (hd : decode y.2.2.1 pc = .ok (.iload i, 2)) (hm : L.lookup i = some (.int x)) (k : kv_V y d B Q kc ks n S I (pc + 2) L (.int x :: st)) : kv_V y d B Q kc ks n S I (pc) L (st) := by
  intro p l e R s m args below meth c D cA Z mc ms C H locs cells slots ls hR hH hq' hc hs hl
  exact lv_iload C.1 C.2.1 hd (kv_lk hl hm) (k p l e R s m args below meth c D cA Z mc ms C H locs cells slots ls hR hH hq' hc hs hl)
theorem kv_aload_n {i : Fin 4} {x : Nat} (hd : decode y.2.2.1 pc = .ok (.aload_n i, 1)) (hm : L.lookup (i : Nat) = some (.ref x)) (k : kv_V y d B Q kc ks n S I (pc + 1) L (.ref x :: st)) : kv_V y d B Q kc ks n S I (pc) L (st) := by
  intro p l e R s m args below meth c D cA Z mc ms C H locs cells slots ls hR hH hq' hc hs hl
  exact lv_aload_n C.1 C.2.1 hd rfl (kv_lk hl hm) (k p l e R s m args below meth c D cA Z mc ms C H locs cells slots ls hR hH hq' hc hs hl)
theorem kv_aload {i : Nat} {x : Nat} (hd : decode y.2.2.1 pc = .ok (.aload i, 2)) (hm : L.lookup i = some (.ref x)) (k : kv_V y d B Q kc ks n S I (pc + 2) L (.ref x :: st)) : kv_V y d B Q kc ks n S I (pc) L (st) := by
  intro p l e R s m args below meth c D cA Z mc ms C H locs cells slots ls hR hH hq' hc hs hl
  exact lv_aload C.1 C.2.1 hd (kv_lk hl hm) (k p l e R s m args below meth c D cA Z mc ms C H locs cells slots ls hR hH hq' hc hs hl)
theorem kv_lload_n {i : Fin 4} {x : Int64} (hd : decode y.2.2.1 pc = .ok (.lload_n i, 1)) (hm : L.lookup (i : Nat) = some (.long x)) (k : kv_V y d B Q kc ks n S I (pc + 1) L (.long x :: st)) : kv_V y d B Q kc ks n S I (pc) L (st) := by
  intro p l e R s m args below meth c D cA Z mc ms C H locs cells slots ls hR hH hq' hc hs hl
  exact lv_lload_n C.1 C.2.1 hd rfl (kv_lk hl hm) (k p l e R s m args below meth c D cA Z mc ms C H locs cells slots ls hR hH hq' hc hs hl)
theorem kv_lload {i : Nat} {x : Int64} (hd : decode y.2.2.1 pc = .ok (.lload i, 2)) (hm : L.lookup i = some (.long x)) (k : kv_V y d B Q kc ks n S I (pc + 2) L (.long x :: st)) : kv_V y d B Q kc ks n S I (pc) L (st) := by
  intro p l e R s m args below meth c D cA Z mc ms C H locs cells slots ls hR hH hq' hc hs hl
  exact lv_lload C.1 C.2.1 hd (kv_lk hl hm) (k p l e R s m args below meth c D cA Z mc ms C H locs cells slots ls hR hH hq' hc hs hl)
theorem kv_istore_n {i : Fin 4} {x : Int32} {L' : List (Nat × Value)} (hd : decode y.2.2.1 pc = .ok (.istore_n i, 1)) (hn : (i : Nat) < y.2.2.2.1) (hL : ((i : Nat), Value.int x) :: L.filter (fun q => !(q.1 == (i : Nat)) && !(q.1 + 1 == (i : Nat) && q.2.category == 2)) = L') (k : kv_V y d B Q kc ks n S I (pc + 1) L' (st)) : kv_V y d B Q kc ks n S I (pc) L (.int x :: st) := by
  intro p l e R s m args below meth c D cA Z mc ms C H locs cells slots ls hR hH hq' hc hs hl
  exact lv_istore_n C.1 C.2.1 hd rfl hl hn hL (fun ls' hl' => (k p l e R s m args below meth c D cA Z mc ms C H locs cells slots ls' hR hH hq' hc hs hl'))
theorem kv_istore {i : Nat} {x : Int32} {L' : List (Nat × Value)} (hd : decode y.2.2.1 pc = .ok (.istore i, 2)) (hn : i < y.2.2.2.1) (hL : (i, Value.int x) :: L.filter (fun q => !(q.1 == i) && !(q.1 + 1 == i && q.2.category == 2)) = L') (k : kv_V y d B Q kc ks n S I (pc + 2) L' (st)) : kv_V y d B Q kc ks n S I (pc) L (.int x :: st) := by
  intro p l e R s m args below meth c D cA Z mc ms C H locs cells slots ls hR hH hq' hc hs hl
  exact lv_istore C.1 C.2.1 hd  hl hn hL (fun ls' hl' => (k p l e R s m args below meth c D cA Z mc ms C H locs cells slots ls' hR hH hq' hc hs hl'))
theorem kv_astore_n {i : Fin 4} {x : Nat} {L' : List (Nat × Value)} (hd : decode y.2.2.1 pc = .ok (.astore_n i, 1)) (hn : (i : Nat) < y.2.2.2.1) (hL : ((i : Nat), Value.ref x) :: L.filter (fun q => !(q.1 == (i : Nat)) && !(q.1 + 1 == (i : Nat) && q.2.category == 2)) = L') (k : kv_V y d B Q kc ks n S I (pc + 1) L' (st)) : kv_V y d B Q kc ks n S I (pc) L (.ref x :: st) := by
  intro p l e R s m args below meth c D cA Z mc ms C H locs cells slots ls hR hH hq' hc hs hl
  exact lv_astore_n C.1 C.2.1 hd rfl hl hn hL (fun ls' hl' => (k p l e R s m args below meth c D cA Z mc ms C H locs cells slots ls' hR hH hq' hc hs hl'))
theorem kv_astore {i : Nat} {x : Nat} {L' : List (Nat × Value)} (hd : decode y.2.2.1 pc = .ok (.astore i, 2)) (hn : i < y.2.2.2.1) (hL : (i, Value.ref x) :: L.filter (fun q => !(q.1 == i) && !(q.1 + 1 == i && q.2.category == 2)) = L') (k : kv_V y d B Q kc ks n S I (pc + 2) L' (st)) : kv_V y d B Q kc ks n S I (pc) L (.ref x :: st) := by
  intro p l e R s m args below meth c D cA Z mc ms C H locs cells slots ls hR hH hq' hc hs hl
  exact lv_astore C.1 C.2.1 hd  hl hn hL (fun ls' hl' => (k p l e R s m args below meth c D cA Z mc ms C H locs cells slots ls' hR hH hq' hc hs hl'))
theorem kv_lstore_n {i : Fin 4} {x : Int64} {L' : List (Nat × Value)} (hd : decode y.2.2.1 pc = .ok (.lstore_n i, 1)) (hn : (i : Nat) + 1 < y.2.2.2.1) (hL : ((i : Nat), Value.long x) :: L.filter (fun q => !(q.1 == (i : Nat)) && (!(q.1 == (i : Nat) + 1) && !(q.1 + 1 == (i : Nat) && q.2.category == 2))) = L') (k : kv_V y d B Q kc ks n S I (pc + 1) L' (st)) : kv_V y d B Q kc ks n S I (pc) L (.long x :: st) := by
  intro p l e R s m args below meth c D cA Z mc ms C H locs cells slots ls hR hH hq' hc hs hl
  exact lv_lstore_n C.1 C.2.1 hd rfl hl hn hL (fun ls' hl' => (k p l e R s m args below meth c D cA Z mc ms C H locs cells slots ls' hR hH hq' hc hs hl'))
theorem kv_lstore {i : Nat} {x : Int64} {L' : List (Nat × Value)} (hd : decode y.2.2.1 pc = .ok (.lstore i, 2)) (hn : i + 1 < y.2.2.2.1) (hL : (i, Value.long x) :: L.filter (fun q => !(q.1 == i) && (!(q.1 == i + 1) && !(q.1 + 1 == i && q.2.category == 2))) = L') (k : kv_V y d B Q kc ks n S I (pc + 2) L' (st)) : kv_V y d B Q kc ks n S I (pc) L (.long x :: st) := by
  intro p l e R s m args below meth c D cA Z mc ms C H locs cells slots ls hR hH hq' hc hs hl
  exact lv_lstore C.1 C.2.1 hd  hl hn hL (fun ls' hl' => (k p l e R s m args below meth c D cA Z mc ms C H locs cells slots ls' hR hH hq' hc hs hl'))
theorem kv_iinc {i : Nat} {u : Int} {x v : Int32} {L' : List (Nat × Value)} (hd : decode y.2.2.1 pc = .ok (.iinc i u, 3)) (hm : L.lookup i = some (.int x)) (hv : x + Int32.ofInt u = v) (hn : i < y.2.2.2.1) (hL : (i, Value.int v) :: L.filter (fun q => !(q.1 == i) && !(q.1 + 1 == i && q.2.category == 2)) = L') (k : kv_V y d B Q kc ks n S I (pc + 3) L' (st)) : kv_V y d B Q kc ks n S I (pc) L (st) := by
  intro p l e R s m args below meth c D cA Z mc ms C H locs cells slots ls hR hH hq' hc hs hl
  obtain ⟨j, hj⟩ := List.getElem?_of_mem (kv_lkm hm)
  exact lv_iinc C.1 C.2.1 hd hl hj hv hn hL (fun ls' hl' => (k p l e R s m args below meth c D cA Z mc ms C H locs cells slots ls' hR hH hq' hc hs hl'))
theorem kv_if_eq {x : Int32} {off : Int} (tgt : Nat) (hd : decode y.2.2.1 pc = .ok (.ifCond .eq off, 3)) (ht : (pc : Int) + off = (tgt : Int)) (kt : x = 0 → kv_V y d B Q kc ks n S I (tgt) L (st)) (kf : ¬ x = 0 → kv_V y d B Q kc ks n S I (pc + 3) L (st)) : kv_V y d B Q kc ks n S I (pc) L (.int x :: st) := by
  intro p l e R s m args below meth c D cA Z mc ms C H locs cells slots ls hR hH hq' hc hs hl
  exact lv_if_eq C.1 C.2.1 hd ht (fun h => (kt h p l e R s m args below meth c D cA Z mc ms C H locs cells slots ls hR hH hq' hc hs hl)) (fun h => (kf h p l e R s m args below meth c D cA Z mc ms C H locs cells slots ls hR hH hq' hc hs hl))
theorem kv_icmp_eq {x z : Int32} {off : Int} (tgt : Nat) (hd : decode y.2.2.1 pc = .ok (.if_icmp .eq off, 3)) (ht : (pc : Int) + off = (tgt : Int)) (kt : x = z → kv_V y d B Q kc ks n S I (tgt) L (st)) (kf : ¬ x = z → kv_V y d B Q kc ks n S I (pc + 3) L (st)) : kv_V y d B Q kc ks n S I (pc) L (.int z :: .int x :: st) := by
  intro p l e R s m args below meth c D cA Z mc ms C H locs cells slots ls hR hH hq' hc hs hl
  exact lv_icmp_eq C.1 C.2.1 hd ht (fun h => (kt h p l e R s m args below meth c D cA Z mc ms C H locs cells slots ls hR hH hq' hc hs hl)) (fun h => (kf h p l e R s m args below meth c D cA Z mc ms C H locs cells slots ls hR hH hq' hc hs hl))
theorem kv_if_ne {x : Int32} {off : Int} (tgt : Nat) (hd : decode y.2.2.1 pc = .ok (.ifCond .ne off, 3)) (ht : (pc : Int) + off = (tgt : Int)) (kt : ¬ x = 0 → kv_V y d B Q kc ks n S I (tgt) L (st)) (kf : x = 0 → kv_V y d B Q kc ks n S I (pc + 3) L (st)) : kv_V y d B Q kc ks n S I (pc) L (.int x :: st) := by
  intro p l e R s m args below meth c D cA Z mc ms C H locs cells slots ls hR hH hq' hc hs hl
  exact lv_if_ne C.1 C.2.1 hd ht (fun h => (kt h p l e R s m args below meth c D cA Z mc ms C H locs cells slots ls hR hH hq' hc hs hl)) (fun h => (kf h p l e R s m args below meth c D cA Z mc ms C H locs cells slots ls hR hH hq' hc hs hl))
theorem kv_icmp_ne {x z : Int32} {off : Int} (tgt : Nat) (hd : decode y.2.2.1 pc = .ok (.if_icmp .ne off, 3)) (ht : (pc : Int) + off = (tgt : Int)) (kt : ¬ x = z → kv_V y d B Q kc ks n S I (tgt) L (st)) (kf : x = z → kv_V y d B Q kc ks n S I (pc + 3) L (st)) : kv_V y d B Q kc ks n S I (pc) L (.int z :: .int x :: st) := by
  intro p l e R s m args below meth c D cA Z mc ms C H locs cells slots ls hR hH hq' hc hs hl
  exact lv_icmp_ne C.1 C.2.1 hd ht (fun h => (kt h p l e R s m args below meth c D cA Z mc ms C H locs cells slots ls hR hH hq' hc hs hl)) (fun h => (kf h p l e R s m args below meth c D cA Z mc ms C H locs cells slots ls hR hH hq' hc hs hl))
theorem kv_if_lt {x : Int32} {off : Int} (tgt : Nat) (hd : decode y.2.2.1 pc = .ok (.ifCond .lt off, 3)) (ht : (pc : Int) + off = (tgt : Int)) (kt : x < 0 → kv_V y d B Q kc ks n S I (tgt) L (st)) (kf : ¬ x < 0 → kv_V y d B Q kc ks n S I (pc + 3) L (st)) : kv_V y d B Q kc ks n S I (pc) L (.int x :: st) := by
  intro p l e R s m args below meth c D cA Z mc ms C H locs cells slots ls hR hH hq' hc hs hl
  exact lv_if_lt C.1 C.2.1 hd ht (fun h => (kt h p l e R s m args below meth c D cA Z mc ms C H locs cells slots ls hR hH hq' hc hs hl)) (fun h => (kf h p l e R s m args below meth c D cA Z mc ms C H locs cells slots ls hR hH hq' hc hs hl))
theorem kv_icmp_lt {x z : Int32} {off : Int} (tgt : Nat) (hd : decode y.2.2.1 pc = .ok (.if_icmp .lt off, 3)) (ht : (pc : Int) + off = (tgt : Int)) (kt : x < z → kv_V y d B Q kc ks n S I (tgt) L (st)) (kf : ¬ x < z → kv_V y d B Q kc ks n S I (pc + 3) L (st)) : kv_V y d B Q kc ks n S I (pc) L (.int z :: .int x :: st) := by
  intro p l e R s m args below meth c D cA Z mc ms C H locs cells slots ls hR hH hq' hc hs hl
  exact lv_icmp_lt C.1 C.2.1 hd ht (fun h => (kt h p l e R s m args below meth c D cA Z mc ms C H locs cells slots ls hR hH hq' hc hs hl)) (fun h => (kf h p l e R s m args below meth c D cA Z mc ms C H locs cells slots ls hR hH hq' hc hs hl))
theorem kv_if_ge {x : Int32} {off : Int} (tgt : Nat) (hd : decode y.2.2.1 pc = .ok (.ifCond .ge off, 3)) (ht : (pc : Int) + off = (tgt : Int)) (kt : 0 ≤ x → kv_V y d B Q kc ks n S I (tgt) L (st)) (kf : ¬ 0 ≤ x → kv_V y d B Q kc ks n S I (pc + 3) L (st)) : kv_V y d B Q kc ks n S I (pc) L (.int x :: st) := by
  intro p l e R s m args below meth c D cA Z mc ms C H locs cells slots ls hR hH hq' hc hs hl
  exact lv_if_ge C.1 C.2.1 hd ht (fun h => (kt h p l e R s m args below meth c D cA Z mc ms C H locs cells slots ls hR hH hq' hc hs hl)) (fun h => (kf h p l e R s m args below meth c D cA Z mc ms C H locs cells slots ls hR hH hq' hc hs hl))
theorem kv_icmp_ge {x z : Int32} {off : Int} (tgt : Nat) (hd : decode y.2.2.1 pc = .ok (.if_icmp .ge off, 3)) (ht : (pc : Int) + off = (tgt : Int)) (kt : z ≤ x → kv_V y d B Q kc ks n S I (tgt) L (st)) (kf : ¬ z ≤ x → kv_V y d B Q kc ks n S I (pc + 3) L (st)) : kv_V y d B Q kc ks n S I (pc) L (.int z :: .int x :: st) := by
  intro p l e R s m args below meth c D cA Z mc ms C H locs cells slots ls hR hH hq' hc hs hl
  exact lv_icmp_ge C.1 C.2.1 hd ht (fun h => (kt h p l e R s m args below meth c D cA Z mc ms C H locs cells slots ls hR hH hq' hc hs hl)) (fun h => (kf h p l e R s m args below meth c D cA Z mc ms C H locs cells slots ls hR hH hq' hc hs hl))
theorem kv_if_gt {x : Int32} {off : Int} (tgt : Nat) (hd : decode y.2.2.1 pc = .ok (.ifCond .gt off, 3)) (ht : (pc : Int) + off = (tgt : Int)) (kt : 0 < x → kv_V y d B Q kc ks n S I (tgt) L (st)) (kf : ¬ 0 < x → kv_V y d B Q kc ks n S I (pc + 3) L (st)) : kv_V y d B Q kc ks n S I (pc) L (.int x :: st) := by
  intro p l e R s m args below meth c D cA Z mc ms C H locs cells slots ls hR hH hq' hc hs hl
  exact lv_if_gt C.1 C.2.1 hd ht (fun h => (kt h p l e R s m args below meth c D cA Z mc ms C H locs cells slots ls hR hH hq' hc hs hl)) (fun h => (kf h p l e R s m args below meth c D cA Z mc ms C H locs cells slots ls hR hH hq' hc hs hl))
theorem kv_icmp_gt {x z : Int32} {off : Int} (tgt : Nat) (hd : decode y.2.2.1 pc = .ok (.if_icmp .gt off, 3)) (ht : (pc : Int) + off = (tgt : Int)) (kt : z < x → kv_V y d B Q kc ks n S I (tgt) L (st)) (kf : ¬ z < x → kv_V y d B Q kc ks n S I (pc + 3) L (st)) : kv_V y d B Q kc ks n S I (pc) L (.int z :: .int x :: st) := by
  intro p l e R s m args below meth c D cA Z mc ms C H locs cells slots ls hR hH hq' hc hs hl
  exact lv_icmp_gt C.1 C.2.1 hd ht (fun h => (kt h p l e R s m args below meth c D cA Z mc ms C H locs cells slots ls hR hH hq' hc hs hl)) (fun h => (kf h p l e R s m args below meth c D cA Z mc ms C H locs cells slots ls hR hH hq' hc hs hl))
theorem kv_if_le {x : Int32} {off : Int} (tgt : Nat) (hd : decode y.2.2.1 pc = .ok (.ifCond .le off, 3)) (ht : (pc : Int) + off = (tgt : Int)) (kt : x ≤ 0 → kv_V y d B Q kc ks n S I (tgt) L (st)) (kf : ¬ x ≤ 0 → kv_V y d B Q kc ks n S I (pc + 3) L (st)) : kv_V y d B Q kc ks n S I (pc) L (.int x :: st) := by
  intro p l e R s m args below meth c D cA Z mc ms C H locs cells slots ls hR hH hq' hc hs hl
  exact lv_if_le C.1 C.2.1 hd ht (fun h => (kt h p l e R s m args below meth c D cA Z mc ms C H locs cells slots ls hR hH hq' hc hs hl)) (fun h => (kf h p l e R s m args below meth c D cA Z mc ms C H locs cells slots ls hR hH hq' hc hs hl))
theorem kv_icmp_le {x z : Int32} {off : Int} (tgt : Nat) (hd : decode y.2.2.1 pc = .ok (.if_icmp .le off, 3)) (ht : (pc : Int) + off = (tgt : Int)) (kt : x ≤ z → kv_V y d B Q kc ks n S I (tgt) L (st)) (kf : ¬ x ≤ z → kv_V y d B Q kc ks n S I (pc + 3) L (st)) : kv_V y d B Q kc ks n S I (pc) L (.int z :: .int x :: st) := by
  intro p l e R s m args below meth c D cA Z mc ms C H locs cells slots ls hR hH hq' hc hs hl
  exact lv_icmp_le C.1 C.2.1 hd ht (fun h => (kt h p l e R s m args below meth c D cA Z mc ms C H locs cells slots ls hR hH hq' hc hs hl)) (fun h => (kf h p l e R s m args below meth c D cA Z mc ms C H locs cells slots ls hR hH hq' hc hs hl))
theorem kv_goto {off : Int} (tgt : Nat) (hd : decode y.2.2.1 pc = .ok (.goto off, 3)) (ht : (pc : Int) + off = (tgt : Int)) (k : kv_V y d B Q kc ks n S I (tgt) L (st)) : kv_V y d B Q kc ks n S I (pc) L (st) := by
  intro p l e R s m args below meth c D cA Z mc ms C H locs cells slots ls hR hH hq' hc hs hl
  exact lv_goto C.1 C.2.1 hd ht (k p l e R s m args below meth c D cA Z mc ms C H locs cells slots ls hR hH hq' hc hs hl)
theorem kv_tableOut {dflt lo hi : Int} {offs : Array Int} {len : Nat} {x : Int32} (tgt : Nat) (hd : decode y.2.2.1 pc = .ok (.tableswitch dflt lo hi offs, len)) (h : x.toInt < lo ∨ hi < x.toInt) (ht : (pc : Int) + dflt = (tgt : Int)) (k : kv_V y d B Q kc ks n S I (tgt) L (st)) : kv_V y d B Q kc ks n S I (pc) L (.int x :: st) := by
  intro p l e R s m args below meth c D cA Z mc ms C H locs cells slots ls hR hH hq' hc hs hl
  exact lv_tableOut C.1 C.2.1 hd h ht (k p l e R s m args below meth c D cA Z mc ms C H locs cells slots ls hR hH hq' hc hs hl)
theorem kv_tableIn {dflt lo hi : Int} {offs : Array Int} {len : Nat} {x : Int32} {off : Int} (tgt : Nat) (hd : decode y.2.2.1 pc = .ok (.tableswitch dflt lo hi offs, len)) (h1 : ¬ x.toInt < lo) (h2 : ¬ hi < x.toInt) (ho : offs[(x.toInt - lo).toNat]? = some off) (ht : (pc : Int) + off = (tgt : Int)) (k : kv_V y d B Q kc ks n S I (tgt) L (st)) : kv_V y d B Q kc ks n S I (pc) L (.int x :: st) := by
  intro p l e R s m args below meth c D cA Z mc ms C H locs cells slots ls hR hH hq' hc hs hl
  exact lv_tableIn C.1 C.2.1 hd h1 h2 ho ht (k p l e R s m args below meth c D cA Z mc ms C H locs cells slots ls hR hH hq' hc hs hl)
theorem kv_ldc {idx : Nat} {v : Int32} (hw : Cond.constant y.1 idx v ∈ kv_tb) (hd : decode y.2.2.1 pc = .ok (.ldc idx, 2)) (k : kv_V y d B Q kc ks n S I (pc + 2) L (.int v :: st)) : kv_V y d B Q kc ks n S I (pc) L (st) := by
  intro p l e R s m args below meth c D cA Z mc ms C H locs cells slots ls hR hH hq' hc hs hl
  exact lv_ldc C.1 C.2.1 C.2.2.2.1 (C.2.2.2.2.1 _ hw) hd (k p l e R s m args below meth c D cA Z mc ms C H locs cells slots ls hR hH hq' hc hs hl)
theorem kv_ldc2 {idx : Nat} {v : Int64} (hw : Cond.constantLong y.1 idx v ∈ kv_tb) (hd : decode y.2.2.1 pc = .ok (.ldc2_w idx, 3)) (k : kv_V y d B Q kc ks n S I (pc + 3) L (.long v :: st)) : kv_V y d B Q kc ks n S I (pc) L (st) := by
  intro p l e R s m args below meth c D cA Z mc ms C H locs cells slots ls hR hH hq' hc hs hl
  exact lv_ldc2 C.1 C.2.1 C.2.2.2.1 (C.2.2.2.2.1 _ hw) hd (k p l e R s m args below meth c D cA Z mc ms C H locs cells slots ls hR hH hq' hc hs hl)
end KVR
