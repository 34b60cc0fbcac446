theorem kv_R.push {b n : Nat} {D : va_G} {cA : Nat → ClassId} {S : kv_SM} {I : kv_IM} {H H1 : Heap} (h : kv_R b n D cA S I H) {x : kv_Sh} {f : Nat → Int32} (z1 : H1.size = b + n + 1) (o1 : ∀ q, q < b + n → H1[q]? = H[q]?) (he : va_at D vwCl (b + n, kv_e cA x f) H1) : kv_R b (n + 1) D cA (kv_su S (b + n) x) (kv_iu I (b + n) f) H1 := by
  refine ⟨by omega, fun k q hk => ?_, fun a ha => ?_⟩
  · obtain ⟨hk1, rfl⟩ := kv_ws_mem hk
    by_cases hkn : k = n
    · subst hkn
      have e1 : kv_su S (b + k) x (b + k) = x := by simp [kv_su]
      have e2 : kv_iu I (b + k) f (b + k) = f := by simp [kv_iu]
      rw [e1, e2]
      exact he
    · have e1 : kv_su S (b + n) x (b + k) = S (b + k) := by simp [kv_su, hkn]
      have e2 : kv_iu I (b + n) f (b + k) = I (b + k) := by simp [kv_iu, hkn]
      rw [e1, e2]
      exact (h.at (a := b + k) (by omega) (by omega)).kept (o1 _ (show b + k < b + n by omega))
  · have e1 : kv_su S (b + n) x a = S a := by
      unfold kv_su
      rw [if_neg (by omega)]
    rw [e1]
    exact h.2.2 a (by omega)
def kv_NW (own : String) (idx ci N : Nat) : Prop := ∃ (C : String) (T : u_T) (ty0 : Nat → FieldType), vwCl[ci]? = some (C, T, N) ∧ (∀ w ∈ u_ws C T N, w ∈ kv_tb) ∧ (∀ j, j < N → parseFieldDescriptor (T j).2.2.1 = some (ty0 j)) ∧ (∀ j, j < N → defaultValue (ty0 j) = vp_V (kv_fs (kv_flags ci) (fun _ => none) (fun _ => 0)) j) ∧ Cond.classLink own idx C ∈ kv_tb ∧ Cond.instantiable C N ∈ kv_tb ∧ Cond.initialized C ∈ kv_tb
section KVA
variable {y : kv_M} {d : Nat} {B : kv_B} {Q : kv_Q} {kc ks n : Nat} {S : kv_SM} {I : kv_IM} {pc : Nat} {L : List (Nat × Value)} {st : List Value}
theorem kv_new {idx ci N : Nat} (F : kv_NW y.1 idx ci N) (hd : decode y.2.2.1 pc = .ok (.new idx, 3)) (h1 : 1 ≤ kc) (h2 : N ≤ ks)
    (kk : kv_V y d B Q (kc - 1) (ks - N) (n + 1) (kv_su S (B.1 + n) (kO ci (fun _ => none))) (kv_iu I (B.1 + n) (fun _ => 0)) (pc + 3) L (.ref (B.1 + n) :: st)) : kv_V y d B Q kc ks n S I pc L st := by
  intro p l e R s m args below meth c D cA Z mc ms C H locs cells slots ls hR hH hq' hc hs hl
  obtain ⟨C0, T, ty0, g1, g2, g3, g4, g5, g6, g7⟩ := F
  obtain ⟨k1, k2, k3, k4, hts, hnw, hK, ⟨kd1, kd2, kd3, kd4⟩, -, ⟨kb, kX⟩, -⟩ := id C
  have hKn := hK.1 ci _ g1
  refine W.newcK C.1 C.2.1 k4 (hts _ g5) (hts _ g6) (hts _ g7) rfl hd (by omega) (by omega) hKn.2.1 hR.1 fun H1 kC hkC e1 z1 o1 => ?_
  refine kk p l e R s m args below meth c D cA Z mc ms C H1 locs (cells + 1) (slots + N) ls (hR.push z1 o1 ⟨_, g1, (u_born ty0 hts g2 hKn hkC e1 g3).to g4⟩) ?_ hq' (by omega) (by omega) hl
  rw [o1 _ (by omega)]
  exact hH
theorem kv_newI {x : Int32} (N : Nat) (harr : Cond.arrayClass .int ∈ kv_tb) (hd : decode y.2.2.1 pc = .ok (.newarray .int, 2)) (hx : x = nI N) (hN : N < 100000000) (h1 : 1 ≤ kc) (h2 : N ≤ ks)
    (kk : kv_V y d B Q (kc - 1) (ks - N) (n + 1) (kv_su S (B.1 + n) (kI N)) (kv_iu I (B.1 + n) (fun _ => 0)) (pc + 2) L (.ref (B.1 + n) :: st)) : kv_V y d B Q kc ks n S I pc L (.int x :: st) := by
  intro p l e R s m args below meth c D cA Z mc ms C H locs cells slots ls hR hH hq' hc hs hl
  obtain ⟨k1, k2, k3, k4, hts, hnw, hK, ⟨kd1, kd2, kd3, kd4⟩, -, ⟨kb, kX⟩, -⟩ := id C
  subst hx
  refine va_newaK C.1 C.2.1 (atype := .int) (hts _ harr) rfl hd rfl (nI_pos (by omega)) (N := N) (nI_clamp (by omega)) (by show N * 4 ≤ 536870912; omega) (by omega) (by omega) hR.1 fun H1 cA' e1 z1 o1 hAr hNm => ?_
  have hcA : cA' = cA 0 := by
    have h3 : s.vm.findClass ("[" ++ FieldType.int.toString) = some (cA 0) := (hK.2 0 _ rfl).2
    exact Option.some.inj (hNm.symm.trans h3)
  subst hcA
  refine kk p l e R s m args below meth c D cA Z mc ms C H1 locs (cells + 1) (slots + N) ls (hR.push z1 o1 e1) ?_ hq' (by omega) (by omega) hl
  rw [o1 _ (by omega)]
  exact hH
theorem kv_newA {x : Int32} {idx ci t0 : Nat} {Cn : String} (N : Nat) (ht : ∀ cA : Nat → ClassId, (kv_tys cA)[t0]? = some (cA (ci + 2), FieldType.object Cn)) (hao : Cn ∈ kv_ao) (hcl : Cond.classLink y.1 idx Cn ∈ kv_tb) (hd : decode y.2.2.1 pc = .ok (.anewarray idx, 3)) (hx : x = nI N) (hN : N < 100000000) (h1 : 1 ≤ kc) (h2 : N ≤ ks)
    (kk : kv_V y d B Q (kc - 1) (ks - N) (n + 1) (kv_su S (B.1 + n) (kA ci N (fun _ => none))) (kv_iu I (B.1 + n) (fun _ => 0)) (pc + 3) L (.ref (B.1 + n) :: st)) : kv_V y d B Q kc ks n S I pc L (.int x :: st) := by
  intro p l e R s m args below meth c D cA Z mc ms C H locs cells slots ls hR hH hq' hc hs hl
  obtain ⟨k1, k2, k3, k4, hts, hnw, hK, ⟨kd1, kd2, kd3, kd4⟩, -, ⟨kb, kX⟩, -⟩ := id C
  subst hx
  have hcl0 := nI_clamp (n := N) (by omega)
  refine W.anew C.1 C.2.1 k4 (hts _ hcl) (va_AO.use (hnw.2 _ hao)) rfl hd rfl (nI_pos (by omega)) (by rw [hcl0]; omega) (by omega) (by rw [hcl0]; omega) fun cA' kA comp f1 f2 f3 f4 => ?_
  have hcA : cA' = cA (ci + 2) := by
    obtain ⟨-, -, -, -, -, h3⟩ := (hK.2 t0 _ (ht cA)).2
    exact Option.some.inj (f1.symm.trans h3)
  subst hcA
  rw [hcl0, hR.1]
  refine kk p l e R s m args below meth c D cA Z mc ms C _ locs (cells + 1) (slots + N) ls (hR.push ?_ ?_ ?_) ?_ hq' (by omega) (by omega) hl
  · rw [Array.size_push, hR.1]
  · intro q hq
    rw [Array.getElem?_push, if_neg (by rw [hR.1]; omega)]
  · show (H.push _)[B.1 + n]? = some (arrV (cA (ci + 2)) N (fun _ => Value.null))
    rw [← hR.1, Array.getElem?_push_size, ← arrV_new]
  · rw [Array.getElem?_push, if_neg (by rw [hR.1]; omega)]
    exact hH
theorem kv_aast {a ci m' v : Nat} {r rv : Nat → Option Nat} {i : Int32} (j : Nat) {q : vw_C} (hd : decode y.2.2.1 pc = .ok (.aastore, 1)) (hS : S a = kA ci m' r) (hv : S v = kO ci rv) (hq0 : vwCl[ci]? = some q) (ht : ∃ t0 : Nat, ∀ cA : Nat → ClassId, (kv_tys cA)[t0]? = some (cA (ci + 2), FieldType.object q.1)) (hi : i = nI j) (hj : j < m') (hm : m' < 2 ^ 31)
    (kk : kv_V y d B Q kc ks n (kv_su S a (kA ci m' (kv_ru r j (some v)))) I (pc + 1) L st) : kv_V y d B Q kc ks n S I pc L (.ref v :: .int i :: .ref a :: st) := by
  intro p l e R s m args below meth c D cA Z mc ms C H locs cells slots ls hR hH hq' hc hs hl
  obtain ⟨i1, i2⟩ := hR.inA hS
  obtain ⟨j1, j2⟩ := hR.inO hv
  have he : (kv_ws B.1 n cA S I)[a - B.1]? = some (a, .inl (cA (ci + 2), m', .inr (.inr (.inr (.inr r))))) := by
    have h := kv_ws_get (cA := cA) (S := S) (I := I) i1 i2
    rw [hS] at h
    exact h
  have hev : (kv_ws B.1 n cA S I)[v - B.1]? = some (v, .inr (ci, kv_fs (kv_flags ci) rv (I v))) := by
    have h := kv_ws_get (cA := cA) (S := S) (I := I) j1 j2
    rw [hv] at h
    exact h
  subst hi
  obtain ⟨t0, ht⟩ := ht
  have hK := C.2.2.2.2.2.2.1
  have hP := hR.2.1
  obtain ⟨r', hr', cellV, g1, g2, g3, -⟩ := hP _ _ hev
  have hcls := (hK.1 ci q hq0).2
  obtain ⟨kA0, comp, k1, k2, k3, -⟩ := (hK.2 t0 _ (ht cA)).2
  have hcomp : comp = D.1 ci := Option.some.inj (k3.symm.trans hcls.1)
  subst hcomp
  obtain ⟨kC, hkC, -⟩ := hcls.2
  refine W.aast C.1 C.2.1 (hP _ _ he) (fun q h => by cases h) (fun h => by cases h) k1 k2 rfl hkC ⟨nI_pos (by omega), by show _ < (arrV _ _ _).slots.size; rw [arrV_size, nI_clamp (by omega)]; exact hj⟩ g1 (fun q h => by rw [g3] at h; cases h) (by rw [g2]; exact hkC) (by rw [g2]; exact va_assign hcls) rfl rfl hd fun H1 e1 z oq0 => ?_
  have oq : ∀ q : Nat, q ≠ a → H1[q]? = H[q]? := oq0
  rw [nI_clamp (by omega)] at e1 ⊢
  have hP' : va_P D vwCl ((kv_ws B.1 n cA S I).set (a - B.1) (a, .inl (cA (ci + 2), m', .inr (.inr (.inr (.inr (kv_ru r j (some v)))))))) H1 := by
    refine hP.set kv_ws_D he ?_ oq
    show H1[a]? = some (vp_cell _ _)
    rw [e1]
    rw [vp_cell_q, vp_cell_q, arrV_store]
    congr 2
    funext q
    by_cases hq : q = j
    · subst hq
      simp [updV, kv_ru, va_rf]
    · simp [updV, kv_ru, hq]
  refine kk p l e R s m args below meth c D cA Z mc ms C H1 _ cells slots ls (hR.set i1 i2 z hP' ?_ (fun q hq => ⟨?_, rfl⟩)) ?_ ?_ hc hs hl
  · have e2 : kv_su S a (kA ci m' (kv_ru r j (some v))) a = kA ci m' (kv_ru r j (some v)) := by simp [kv_su]
    rw [e2]
    rfl
  · simp [kv_su, hq]
  · rw [oq _ (by have := C.2.2.2.2.2.2.2.2.2.1.1; omega)]
    exact hH
  · intro q hq
    rcases List.mem_append.mp hq with h | h
    · exact hq' q h
    · rw [List.mem_singleton.mp h]
      exact i1
theorem kv_copy {idx a0 a1 n0 n1 : Nat} {xs xd xn : Int32} (sp dp N : Nat) (h1 : Cond.methodLink y.1 idx arraycopyName ∈ kv_tb) (h2 : Cond.native arraycopyName ∈ kv_tb) (h3 : Cond.static arraycopyName ∈ kv_tb) (h4 : Cond.initialized "java/lang/System" ∈ kv_tb) (hd : decode y.2.2.1 pc = .ok (.invokestatic idx, 3)) (hdep : 1 ≤ d) (hw : (st.map fun v => v.category).sum ≤ 8)
    (hS0 : S a0 = kI n0) (hS1 : S a1 = kI n1) (z0 : 0 < n0) (z1 : 0 < n1) (m0 : n0 < 2 ^ 30) (m1 : n1 < 2 ^ 30) (es : xs = nI sp) (ed : xd = nI dp) (en : xn = nI N) (b0 : sp + N ≤ n0) (b1 : dp + N ≤ n1)
    (kk : kv_V y d B Q kc ks n S (kv_cp I a0 a1 sp dp N) (pc + 3) L st) : kv_V y d B Q kc ks n S I pc L (.int xn :: .int xd :: .ref a1 :: .int xs :: .ref a0 :: st) := by
  intro p l e R s m args below meth c D cA Z mc ms C H locs cells slots ls hR hH hq' hc hs hl
  obtain ⟨k1, k2, k3, k4, hts, hnw, hK, ⟨kd1, kd2, kd3, kd4⟩, -, ⟨kb, kX⟩, -⟩ := id C
  obtain ⟨i1, i2⟩ := hR.inI hS1 z1
  obtain ⟨j1, j2⟩ := hR.inI hS0 z0
  have he : (kv_ws B.1 n cA S I)[a1 - B.1]? = some (a1, .inl (cA 0, n1, .inl (I a1))) := by
    have h := kv_ws_get (cA := cA) (S := S) (I := I) i1 i2
    rw [hS1] at h
    exact h
  have he0 : (kv_ws B.1 n cA S I)[a0 - B.1]? = some (a0, .inl (cA 0, n0, .inl (I a0))) := by
    have h := kv_ws_get (cA := cA) (S := S) (I := I) j1 j2
    rw [hS0] at h
    exact h
  subst es ed en
  have hP := hR.2.1
  have c1 := nI_clamp (n := sp) (by omega)
  have c2 := nI_clamp (n := dp) (by omega)
  have c3 := nI_clamp (n := N) (by omega)
  have t1 := nI_toInt (n := sp) (by omega)
  have t2 := nI_toInt (n := dp) (by omega)
  have t3 := nI_toInt (n := N) (by omega)
  intro T hT X
  have hc0 : H[a0]? = some (vp_cell (cA 0) (n0, .inl (I a0))) := hP _ _ he0
  have hc1 : H[a1]? = some (vp_cell (cA 0) (n1, .inl (I a1))) := hP _ _ he
  obtain ⟨-, kk0, hk0, cm0, hkk0⟩ := (hK.2 0 _ rfl).1 n0 (fun j => .int (I a0 j))
  obtain ⟨vm', X', step⟩ := X.arraycopy C.1 k4 (hts _ h1) (hts _ h2) (hts _ h3) (hts _ h4) (src := a0) (dst := a1) (cs := vp_cell (cA 0) (n0, .inl (I a0))) (cd := vp_cell (cA 0) (n1, .inl (I a1))) (srcPos := nI sp) (destPos := nI dp) (n := nI N) (by rw [hT]; exact hc0) (by rw [hT]; exact hc1)
    (fun _ h => by cases h) (fun _ h => by cases h) (fun h => by cases h) (fun h => by cases h) hk0 hk0 hkk0 hkk0 (by simp [refKind]) (nI_pos (by omega)) (nI_pos (by omega)) (nI_pos (by omega))
    (by rw [t1, t3]; show ¬ _ > ((arrV _ n0 (fun j => .int (I a0 j))).slots.size : Int); rw [arrV_size]; omega)
    (by rw [t2, t3]; show ¬ _ > ((arrV _ n1 (fun j => .int (I a1 j))).slots.size : Int); rw [arrV_size]; omega)
    (fun vm₁ _ i hi => by
      rw [c3] at hi
      have e : (vp_cell (cA 0) (n0, .inl (I a0))).slots.getD ((nI sp).toNatClampNeg + i) .null = .int (I a0 ((nI sp).toNatClampNeg + i)) := by
        show (arrV _ n0 (fun j => .int (I a0 j))).slots.getD _ _ = _
        rw [Array.getD_eq_getD_getElem?, arrV_read _ _ (by rw [c1]; omega)]
        rfl
      refine ⟨?_, ?_⟩
      · rw [e]
        rfl
      · rw [e]
        exact trivial)
    (g := F0 m pc ls (.int (nI N) :: .int (nI dp) :: .ref a1 :: .int (nI sp) :: .ref a0 :: st)) rfl (by rw [k3]; exact hl.1) (rest := st) rfl (by rw [k2]; exact hd) (by omega) (by
      have : nativeFrameWords "java/lang/System" "arraycopy" 5 + 11 ≤ 28 := by decide
      show 2 * 0 + _ + _ ≤ _; omega)
  have e1 : copied (vp_cell (cA 0) (n0, .inl (I a0))) (vp_cell (cA 0) (n1, .inl (I a1))) (nI sp) (nI dp) (nI N) = vp_cell (cA 0) (n1, .inl (va_cpy (I a0) (I a1) sp dp N)) := by
    have h := va_copied (fun z => .int z) (cA 0) (cA 0) (n0 := n0) (n1 := n1) (sp := (nI sp).toNatClampNeg) (dp := (nI dp).toNatClampNeg) (n := (nI N).toNatClampNeg) (I a0) (I a1) (by rw [c1, c3]; exact b0)
    rw [c1, c2, c3] at h
    have h' : copied (vp_cell (cA 0) (n0, .inl (I a0))) (vp_cell (cA 0) (n1, .inl (I a1))) (nI sp) (nI dp) (nI N) = (arrV (cA 0) n1 (fun j => .int (I a1 j))).storeRun (nI dp).toNatClampNeg ((arrV (cA 0) n0 (fun j => .int (I a0 j))).stretch (nI sp).toNatClampNeg (nI N).toNatClampNeg) := rfl
    rw [h', c1, c2, c3]
    exact h
  rw [e1] at X' step
  have hlt : a1 < H.size := (Array.getElem?_eq_some_iff.mp hc1).1
  have hheap : ((T.setVm vm').setCell a1 (vp_cell (cA 0) (n1, .inl (va_cpy (I a0) (I a1) sp dp N)))).heap = H.setIfInBounds a1 (vp_cell (cA 0) (n1, .inl (va_cpy (I a0) (I a1) sp dp N))) := by rw [← hT]; rfl
  have oq : ∀ q : Nat, q ≠ a1 → (H.setIfInBounds a1 (vp_cell (cA 0) (n1, .inl (va_cpy (I a0) (I a1) sp dp N))))[q]? = H[q]? := fun q hq => by simp [Array.getElem?_setIfInBounds, Ne.symm hq]
  have hP' := hP.set kv_ws_D he (e := .inl (cA 0, n1, .inl (va_cpy (I a0) (I a1) sp dp N))) (H1 := H.setIfInBounds a1 (vp_cell (cA 0) (n1, .inl (va_cpy (I a0) (I a1) sp dp N)))) (show (H.setIfInBounds a1 _)[a1]? = some _ by simp [Array.getElem?_setIfInBounds, hlt]) oq
  obtain ⟨t, a2, b2⟩ := kk p l e R s m args below meth c D cA Z mc ms C _ _ cells slots ls (hR.set (S' := S) (I' := kv_cp I a0 a1 sp dp N) i1 i2 (by simp) hP' (by
      rw [hS1]
      have hf : kv_cp I a0 a1 sp dp N a1 = va_cpy (I a0) (I a1) sp dp N := by
        funext q
        simp [kv_cp]
      show Sum.inl (cA 0, n1, Sum.inl (kv_cp I a0 a1 sp dp N a1)) = _
      rw [hf]) (fun q hq => ⟨rfl, by funext j; simp [kv_cp, hq]⟩)) (by
      rw [oq _ (by omega)]
      exact hH) (fun q hq => by
      rcases List.mem_append.mp hq with h | h
      · exact hq' q h
      · obtain ⟨z, -, hz⟩ := List.mem_map.mp h
        rw [← hz]
        exact i1) hc hs hl _ hheap X'
  exact ⟨t, step t a2, b2⟩
end KVA
