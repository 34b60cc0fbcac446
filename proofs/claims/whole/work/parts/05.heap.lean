def kv_F (own : String) (idx ci k : Nat) (t : Bool) : Prop := ∃ (C : String) (T : u_T) (N : Nat), vwCl[ci]? = some (C, T, N) ∧ k < N ∧ (∀ w ∈ u_ws C T N, w ∈ kv_tb) ∧ (kv_flags ci)[k]? = some t ∧
  ((Cond.fieldLink own idx (T k).1 (T k).2.1 (T k).2.2.1 ∈ kv_tb) ∨ ∃ host, Cond.fieldLinkNest own idx (T k).1 (T k).2.1 (T k).2.2.1 host ∈ kv_nw)
def kv_G (own : String) (idx ci k : Nat) (t : Bool) (ty : FieldType) (fin : Bool) : Prop := ∃ (C : String) (T : u_T) (N : Nat) (ty0 : Nat → FieldType), vwCl[ci]? = some (C, T, N) ∧ k < N ∧ (∀ w ∈ u_ws C T N, w ∈ kv_tb) ∧ (kv_flags ci)[k]? = some t ∧
  (∀ j, j < N → parseFieldDescriptor (T j).2.2.1 = some (ty0 j)) ∧ (∀ a, a < N → ∀ b, b < N → a ≠ b → (T a).2.1 ≠ (T b).2.1) ∧ (T k).2.2.2 = fin ∧ parseFieldDescriptor (T k).2.2.1 = some ty ∧ (fin = true → (T k).1 = own) ∧
  ((Cond.fieldLink own idx (T k).1 (T k).2.1 (T k).2.2.1 ∈ kv_tb) ∨ (fin = false ∧ ∃ host, Cond.fieldLinkNest own idx (T k).1 (T k).2.1 (T k).2.2.1 host ∈ kv_nw))
section KVH
variable {y : kv_M} {d : Nat} {B : kv_B} {Q : kv_Q} {kc ks n : Nat} {S : kv_SM} {I : kv_IM} {pc : Nat} {L : List (Nat × Value)} {st : List Value}
theorem kv_get {idx ci k a : Nat} {t : Bool} {r : Nat → Option Nat} (F : kv_F y.1 idx ci k t) (hd : decode y.2.2.1 pc = .ok (.getfield idx, 3)) (hS : S a = kO ci r)
    (kk : kv_V y d B Q kc ks n S I (pc + 3) L ((if t = true then va_rf (r k) else .int (I a k)) :: st)) : kv_V y d B Q kc ks n S I pc L (.ref a :: st) := by
  intro p l e R s m args below meth c D cA Z mc ms C H locs cells slots ls hR hH hq' hc hs hl
  obtain ⟨C0, T, N, h1, h2, h3, h4, h5⟩ := F
  obtain ⟨i1, i2⟩ := hR.inO hS
  have he : (kv_ws B.1 n cA S I)[a - B.1]? = some (a, .inr (ci, kv_fs (kv_flags ci) r (I a))) := by
    have h := kv_ws_get (cA := cA) (S := S) (I := I) i1 i2
    rw [hS] at h
    exact h
  have hts := C.2.2.2.2.1
  have hnw := C.2.2.2.2.2.1
  have hK := C.2.2.2.2.2.2.1
  have kk' := kk p l e R s m args below meth c D cA Z mc ms C H locs cells slots ls hR hH hq' hc hs hl
  rcases h5 with h5 | ⟨host, h5⟩
  · exact va_get C.1 C.2.1 hts h3 C.2.2.2.1 hK hR.2.1 (a - B.1) he h1 k h2 (hts _ h5) (fun _ h9 => h9) (kv_fs_get h4) hd kk'
  · exact va_getN C.1 C.2.1 hts h3 C.2.2.2.1 hK hR.2.1 (a - B.1) he h1 k h2 (va_Nw.use rfl (hnw.1 _ h5)) (fun _ h9 => h9) (kv_fs_get h4) hd kk'
theorem kv_getI {idx ci k a : Nat} {r : Nat → Option Nat} (F : kv_F y.1 idx ci k false) (hd : decode y.2.2.1 pc = .ok (.getfield idx, 3)) (hS : S a = kO ci r)
    (kk : kv_V y d B Q kc ks n S I (pc + 3) L (.int (I a k) :: st)) : kv_V y d B Q kc ks n S I pc L (.ref a :: st) := kv_get F hd hS (by rw [if_neg (by decide)]; exact kk)
theorem kv_getR {idx ci k a a1 : Nat} {r : Nat → Option Nat} (F : kv_F y.1 idx ci k true) (hd : decode y.2.2.1 pc = .ok (.getfield idx, 3)) (hS : S a = kO ci r) (hr : r k = some a1)
    (kk : kv_V y d B Q kc ks n S I (pc + 3) L (.ref a1 :: st)) : kv_V y d B Q kc ks n S I pc L (.ref a :: st) := kv_get F hd hS (by rw [if_pos rfl, hr]; exact kk)
theorem kv_putW {idx ci k a : Nat} {t : Bool} {ty : FieldType} {fin : Bool} {r : Nat → Option Nat} {v : Value} {S' : kv_SM} {I' : kv_IM} (F : kv_G y.1 idx ci k t ty fin) (hf : fin = true → y.2.1.name = "<init>") (hd : decode y.2.2.1 pc = .ok (.putfield idx, 3)) (hS : S a = kO ci r) (hn : narrow ty v = v) (hfit : fits ty v = true)
    (he' : ∀ cA, kv_e cA (S' a) (I' a) = .inr (ci, (kv_fs (kv_flags ci) r (I a)).set k v)) (ho : ∀ q, q ≠ a → S' q = S q ∧ I' q = I q)
    (kk : kv_V y d B Q kc ks n S' I' (pc + 3) L st) : kv_V y d B Q kc ks n S I pc L (v :: .ref a :: st) := by
  intro p l e R s m args below meth c D cA Z mc ms C H locs cells slots ls hR hH hq' hc hs hl
  obtain ⟨C0, T, N, ty0, h1, h2, h3, h4, hty, hnm, hfin, hpd, hfo, h5⟩ := F
  obtain ⟨i1, i2⟩ := hR.inO hS
  have he : (kv_ws B.1 n cA S I)[a - B.1]? = some (a, .inr (ci, kv_fs (kv_flags ci) r (I a))) := by
    have h := kv_ws_get (cA := cA) (S := S) (I := I) i1 i2
    rw [hS] at h
    exact h
  have hts := C.2.2.2.2.1
  have hnw := C.2.2.2.2.2.1
  have hK := C.2.2.2.2.2.2.1
  have hown := C.2.2.2.1
  have hP := hR.2.1
  have hap := va_apart (own := y.1) hts h3 ty0 hty hnm hK h1
  obtain ⟨r0, g1, cell, q1, q2, q3, q4⟩ := hP (a - B.1) _ he
  have hr : r0 = (C0, T, N) := Option.some.inj (g1.symm.trans h1)
  subst hr
  obtain ⟨hSl, hfc, kC, hkC, hkind⟩ := hK.1 ci _ h1
  obtain ⟨cf, kf, fi, f, hi, hsl⟩ := hSl k h2
  have hst := (u_facts hfc hkC (u_lays hts h3 h2) hi).1
  have hl2 : k < (kv_fs (kv_flags ci) r (I a)).length := by rw [kv_fs_len]; exact (List.getElem?_eq_some_iff.mp h4).1
  have fin' : ∀ (H' : Heap), H'[a]? = some (cell.setSlot (D.2 ci k) v) → H'.size = H.size → (∀ q, q ≠ a → H'[q]? = H[q]?) → W p l e R s m args below meth c H' (locs ++ [⟨a, D.2 ci k⟩]) cells slots Z (F0 m (pc + 3) ls st) := by
    intro H' e1 e2 e3
    have hP' : va_P D vwCl ((kv_ws B.1 n cA S I).set (a - B.1) (a, .inr (ci, (kv_fs (kv_flags ci) r (I a)).set k v))) H' :=
      hP.set kv_ws_D he ⟨_, h1, t_OB.to (V := updV (vp_V (kv_fs (kv_flags ci) r (I a))) k v) ⟨_, e1, q2, q3, t_set q4 hap h2 v⟩ (fun j _ => vp_updV_set hl2 v j)⟩ e3
    refine kk p l e R s m args below meth c D cA Z mc ms C H' _ cells slots ls (hR.set i1 i2 e2 hP' (he' cA) ho) ?_ ?_ hc hs hl
    · rw [e3 _ (by have := C.2.2.2.2.2.2.2.2.2.1.1; omega)]
      exact hH
    · intro q hq
      rcases List.mem_append.mp hq with h | h
      · exact hq' q h
      · rw [List.mem_singleton.mp h]
        exact i1
  cases fin with
  | false =>
    have hlay := hts _ (h3 _ (u_in_lay h2))
    unfold u_lay at hlay
    rw [if_neg (by rw [hfin]; decide)] at hlay
    have h6 := u_store hfc hkC hkind hlay hi hpd hn hfit
    rcases h5 with h5 | ⟨-, host, h5⟩
    · refine W.putK C.1 C.2.1 (f := f) ⟨hown, hts _ h5, ⟨_, _, _, hi⟩, hst⟩ (by rw [q2]; exact h6) q1 q3 (by rw [hsl]; exact k2_hasslot (q4 k h2)) rfl rfl hd fun H' e1 e2 e3 => ?_
      rw [hsl] at e1 ⊢
      exact fin' H' e1 e2 e3
    · refine va_WputK C.1 C.2.1 (f := f) hown (va_Nw.use rfl (hnw.1 _ h5)) hi hst (by rw [q2]; exact h6) q1 q3 (by rw [hsl]; exact k2_hasslot (q4 k h2)) rfl rfl hd fun H' e1 e2 e3 => ?_
      rw [hsl] at e1 ⊢
      exact fin' H' e1 e2 e3
  | true =>
    have hlay := hts _ (h3 _ (u_in_lay h2))
    unfold u_lay at hlay
    rw [if_pos hfin] at hlay
    have hcf : m.cls = cf := by
      obtain ⟨_, _, c', _, _, _, -, -, hf', -, -, -, hown2, -⟩ := Cond.laysFinal_spec hlay
      have e1 : c' = cf := by have := hi.symm.trans hf'; simp at this; exact this.1.symm
      rw [hfo rfl] at hown2
      rw [← e1]; exact Option.some.inj (hown.symm.trans hown2)
    have h6 := u_fits hfc hkC hkind (Or.inr hlay) hi hpd hn hfit
    rcases h5 with h5 | ⟨h5, -⟩
    · refine W.putFinK C.1 C.2.1 hown (hts _ h5) hi hst hcf (C.2.2.2.2.2.2.2.2.1 (hf rfl)) (by rw [q2]; exact h6) q1 q3 (by rw [hsl]; exact k2_hasslot (q4 k h2)) rfl rfl hd fun H' e1 e2 e3 => ?_
      rw [hsl] at e1 ⊢
      exact fin' H' e1 e2 e3
    · cases h5
theorem kv_putI {idx ci k a : Nat} {ty : FieldType} {fin : Bool} {r : Nat → Option Nat} {x : Int32} (F : kv_G y.1 idx ci k false ty fin) (hf : fin = true → y.2.1.name = "<init>") (hd : decode y.2.2.1 pc = .ok (.putfield idx, 3)) (hS : S a = kO ci r) (hn : narrow ty (.int x) = .int x) (hfit : fits ty (.int x) = true)
    (kk : kv_V y d B Q kc ks n S (kv_up I a k x) (pc + 3) L st) : kv_V y d B Q kc ks n S I pc L (.int x :: .ref a :: st) := by
  obtain ⟨C0, T, N, ty0, h1, h2, h3, h4, h5⟩ := id F
  refine kv_putW F hf hd hS hn hfit (fun cA => ?_) (fun q hq => ⟨rfl, ?_⟩) kk
  · rw [hS]
    show Sum.inr (ci, kv_fs _ _ _) = _
    rw [kv_fs_setI h4 (f := I a) (x := x) (by simp [kv_up]) (fun j hj => by simp [kv_up, hj])]
  · funext j
    simp [kv_up, hq]
theorem kv_putR {idx ci k a v : Nat} {nm : FieldType} {fin : Bool} {r : Nat → Option Nat} (F : kv_G y.1 idx ci k true nm fin) (hf : fin = true → y.2.1.name = "<init>") (hd : decode y.2.2.1 pc = .ok (.putfield idx, 3)) (hS : S a = kO ci r) (hn : narrow nm (.ref v) = .ref v) (hfit : fits nm (.ref v) = true)
    (kk : kv_V y d B Q kc ks n (kv_su S a (kO ci (kv_ru r k (some v)))) I (pc + 3) L st) : kv_V y d B Q kc ks n S I pc L (.ref v :: .ref a :: st) := by
  obtain ⟨C0, T, N, ty0, h1, h2, h3, h4, h5⟩ := id F
  refine kv_putW F hf hd hS hn hfit (fun cA => ?_) (fun q hq => ⟨?_, rfl⟩) kk
  · have e : kv_su S a (kO ci (kv_ru r k (some v))) a = kO ci (kv_ru r k (some v)) := by simp [kv_su]
    rw [e]
    show Sum.inr (ci, kv_fs _ _ _) = _
    rw [kv_fs_setR h4 (r := r) (x := some v) (by simp [kv_ru]) (fun j hj => by simp [kv_ru, hj])]
    rfl
  · simp [kv_su, hq]
theorem kv_iald {a m' : Nat} {i : Int32} (j : Nat) (hd : decode y.2.2.1 pc = .ok (.iaload, 1)) (hS : S a = kI m') (hi : i = nI j) (hj : j < m') (hm : m' < 2 ^ 31)
    (kk : kv_V y d B Q kc ks n S I (pc + 1) L (.int (I a j) :: st)) : kv_V y d B Q kc ks n S I pc L (.int i :: .ref a :: st) := by
  intro p l e R s m args below meth c D cA Z mc ms C H locs cells slots ls hR hH hq' hc hs hl
  obtain ⟨i1, i2⟩ := hR.inI hS (by omega)
  have he : (kv_ws B.1 n cA S I)[a - B.1]? = some (a, .inl (cA 0, m', .inl (I a))) := by
    have h := kv_ws_get (cA := cA) (S := S) (I := I) i1 i2
    rw [hS] at h
    exact h
  subst hi
  refine va_iald C.1 C.2.1 C.2.2.2.2.2.2.1 hR.2.1 (a - B.1) 0 he rfl (vp_in_nI hj hm) hd ?_
  rw [nI_clamp (by omega)]
  exact kk p l e R s m args below meth c D cA Z mc ms C H locs cells slots ls hR hH hq' hc hs hl
theorem kv_iast {a m' : Nat} {i x : Int32} (j : Nat) (hd : decode y.2.2.1 pc = .ok (.iastore, 1)) (hS : S a = kI m') (hi : i = nI j) (hj : j < m') (hm : m' < 2 ^ 31)
    (kk : kv_V y d B Q kc ks n S (kv_up I a j x) (pc + 1) L st) : kv_V y d B Q kc ks n S I pc L (.int x :: .int i :: .ref a :: st) := by
  intro p l e R s m args below meth c D cA Z mc ms C H locs cells slots ls hR hH hq' hc hs hl
  obtain ⟨i1, i2⟩ := hR.inI hS (by omega)
  have he : (kv_ws B.1 n cA S I)[a - B.1]? = some (a, .inl (cA 0, m', .inl (I a))) := by
    have h := kv_ws_get (cA := cA) (S := S) (I := I) i1 i2
    rw [hS] at h
    exact h
  subst hi
  have hK := C.2.2.2.2.2.2.1
  refine W.iast C.1 C.2.1 (hR.2.1 _ _ he) ((hK.2 0 _ rfl).1 m' (fun j => .int (I a j))) (fun q => by cases q) (by show ¬ (_ < 0 ∨ (arrV _ _ _).slots.size ≤ _); rw [arrV_size]; exact vp_in_nI hj hm) rfl rfl hd fun H1 e1 z oq0 => ?_
  have oq : ∀ q : Nat, q ≠ a → H1[q]? = H[q]? := oq0
  rw [nI_clamp (by omega)] at e1 ⊢
  have hP' : va_P D vwCl ((kv_ws B.1 n cA S I).set (a - B.1) (a, .inl (cA 0, m', .inl (upd (I a) j x)))) H1 := by
    refine hR.2.1.set kv_ws_D he ?_ oq
    show H1[a]? = some (vp_cell _ _)
    rw [e1]
    rw [vp_cell_i, vp_cell_i, arrV_store]
    congr 2
    funext q
    by_cases hq : q = j
    · subst hq
      simp [updV, upd]
    · simp [updV, upd, hq]
  refine kk p l e R s m args below meth c D cA Z mc ms C H1 _ cells slots ls (hR.set i1 i2 z hP' ?_ (fun q hq => ⟨rfl, ?_⟩)) ?_ ?_ hc hs hl
  · rw [hS]
    have hf : kv_up I a j x a = upd (I a) j x := by
      funext q
      simp [kv_up, upd]
    show Sum.inl (cA 0, m', Sum.inl (kv_up I a j x a)) = _
    rw [hf]
  · funext j'
    simp [kv_up, hq]
  · rw [oq _ (by have := C.2.2.2.2.2.2.2.2.2.1.1; omega)]
    exact hH
  · intro q hq
    rcases List.mem_append.mp hq with h | h
    · exact hq' q h
    · rw [List.mem_singleton.mp h]
      exact i1
theorem kv_zald {a m' : Nat} {i : Int32} (j : Nat) (hd : decode y.2.2.1 pc = .ok (.baload, 1)) (hS : S a = kZ m') (hi : i = nI j) (hj : j < m') (hm : m' < 2 ^ 31)
    (kk : kv_V y d B Q kc ks n S I (pc + 1) L (.int (I a j) :: st)) : kv_V y d B Q kc ks n S I pc L (.int i :: .ref a :: st) := by
  intro p l e R s m args below meth c D cA Z mc ms C H locs cells slots ls hR hH hq' hc hs hl
  obtain ⟨i1, i2⟩ := hR.inI hS (by omega)
  have he : (kv_ws B.1 n cA S I)[a - B.1]? = some (a, .inl (cA 1, m', .inl (I a))) := by
    have h := kv_ws_get (cA := cA) (S := S) (I := I) i1 i2
    rw [hS] at h
    exact h
  subst hi
  refine va_zald C.1 C.2.1 C.2.2.2.2.2.2.1 hR.2.1 (a - B.1) 1 he rfl (vp_in_nI hj hm) hd ?_
  rw [nI_clamp (by omega)]
  exact kk p l e R s m args below meth c D cA Z mc ms C H locs cells slots ls hR hH hq' hc hs hl
theorem kv_zast {a m' : Nat} {i x : Int32} (j : Nat) (hx : x = 0 ∨ x = 1) (hd : decode y.2.2.1 pc = .ok (.bastore, 1)) (hS : S a = kZ m') (hi : i = nI j) (hj : j < m') (hm : m' < 2 ^ 31)
    (kk : kv_V y d B Q kc ks n S (kv_up I a j x) (pc + 1) L st) : kv_V y d B Q kc ks n S I pc L (.int x :: .int i :: .ref a :: st) := by
  intro p l e R s m args below meth c D cA Z mc ms C H locs cells slots ls hR hH hq' hc hs hl
  obtain ⟨i1, i2⟩ := hR.inI hS (by omega)
  have he : (kv_ws B.1 n cA S I)[a - B.1]? = some (a, .inl (cA 1, m', .inl (I a))) := by
    have h := kv_ws_get (cA := cA) (S := S) (I := I) i1 i2
    rw [hS] at h
    exact h
  subst hi
  have hK := C.2.2.2.2.2.2.1
  refine W.zast C.1 C.2.1 (hR.2.1 _ _ he) ((hK.2 1 _ rfl).1 m' (fun j => .int (I a j))) (fun q => by cases q) (by show ¬ (_ < 0 ∨ (arrV _ _ _).slots.size ≤ _); rw [arrV_size]; exact vp_in_nI hj hm) rfl rfl hd fun H1 e1 z oq0 => ?_
  have oq : ∀ q : Nat, q ≠ a → H1[q]? = H[q]? := oq0
  have hnx : narrow .boolean (.int x) = .int x := by rcases hx with rfl | rfl <;> rfl
  rw [nI_clamp (by omega)] at e1 ⊢
  rw [hnx] at e1
  have hP' : va_P D vwCl ((kv_ws B.1 n cA S I).set (a - B.1) (a, .inl (cA 1, m', .inl (upd (I a) j x)))) H1 := by
    refine hR.2.1.set kv_ws_D he ?_ oq
    show H1[a]? = some (vp_cell _ _)
    rw [e1]
    rw [vp_cell_i, vp_cell_i, arrV_store]
    congr 2
    funext q
    by_cases hq : q = j
    · subst hq
      simp [updV, upd]
    · simp [updV, upd, hq]
  refine kk p l e R s m args below meth c D cA Z mc ms C H1 _ cells slots ls (hR.set i1 i2 z hP' ?_ (fun q hq => ⟨rfl, ?_⟩)) ?_ ?_ hc hs hl
  · rw [hS]
    have hf : kv_up I a j x a = upd (I a) j x := by
      funext q
      simp [kv_up, upd]
    show Sum.inl (cA 1, m', Sum.inl (kv_up I a j x a)) = _
    rw [hf]
  · funext j'
    simp [kv_up, hq]
  · rw [oq _ (by have := C.2.2.2.2.2.2.2.2.2.1.1; omega)]
    exact hH
  · intro q hq
    rcases List.mem_append.mp hq with h | h
    · exact hq' q h
    · rw [List.mem_singleton.mp h]
      exact i1
theorem kv_alen {a m' : Nat} (hd : decode y.2.2.1 pc = .ok (.arraylength, 1)) (hS : S a = kI m') (h0 : 0 < m')
    (kk : kv_V y d B Q kc ks n S I (pc + 1) L (.int (nI m') :: st)) : kv_V y d B Q kc ks n S I pc L (.ref a :: st) := by
  intro p l e R s m args below meth c D cA Z mc ms C H locs cells slots ls hR hH hq' hc hs hl
  obtain ⟨i1, i2⟩ := hR.inI hS h0
  have he : (kv_ws B.1 n cA S I)[a - B.1]? = some (a, .inl (cA 0, m', .inl (I a))) := by
    have h := kv_ws_get (cA := cA) (S := S) (I := I) i1 i2
    rw [hS] at h
    exact h
  exact va_alen C.1 C.2.1 C.2.2.2.2.2.2.1 hR.2.1 (a - B.1) 0 he rfl (v := nI m') rfl hd (kk p l e R s m args below meth c D cA Z mc ms C H locs cells slots ls hR hH hq' hc hs hl)
theorem kv_aald {a ci m' a1 : Nat} {r : Nat → Option Nat} {i : Int32} (j : Nat) (hd : decode y.2.2.1 pc = .ok (.aaload, 1)) (hS : S a = kA ci m' r) (ht : ∃ (t0 : Nat) (Cn : String), ∀ cA : Nat → ClassId, (kv_tys cA)[t0]? = some (cA (ci + 2), FieldType.object Cn)) (hi : i = nI j) (hj : j < m') (hm : m' < 2 ^ 31) (hr : r j = some a1)
    (kk : kv_V y d B Q kc ks n S I (pc + 1) L (.ref a1 :: st)) : kv_V y d B Q kc ks n S I pc L (.int i :: .ref a :: st) := by
  intro p l e R s m args below meth c D cA Z mc ms C H locs cells slots ls hR hH hq' hc hs hl
  obtain ⟨i1, i2⟩ := hR.inA hS
  have he : (kv_ws B.1 n cA S I)[a - B.1]? = some (a, .inl (cA (ci + 2), m', .inr (.inr (.inr (.inr r))))) := by
    have h := kv_ws_get (cA := cA) (S := S) (I := I) i1 i2
    rw [hS] at h
    exact h
  subst hi
  obtain ⟨t0, Cn, ht⟩ := ht
  refine va_aldq C.1 C.2.1 C.2.2.2.2.2.2.1 hR.2.1 (a - B.1) t0 he (ht cA) (vp_in_nI hj hm) hd ?_
  rw [nI_clamp (by omega), hr]
  exact kk p l e R s m args below meth c D cA Z mc ms C H locs cells slots ls hR hH hq' hc hs hl
theorem kv_sld {i : Int32} (j : Nat) (hd : decode y.2.2.1 pc = .ok (.iaload, 1)) (hi : i = nI j) (hj : j < B.2.2.1) (hm : B.2.2.1 < 2 ^ 31)
    (kk : kv_V y d B Q kc ks n S I (pc + 1) L (.int (B.2.2.2 j) :: st)) : kv_V y d B Q kc ks n S I pc L (.int i :: .ref B.2.1 :: st) := by
  intro p l e R s m args below meth c D cA Z mc ms C H locs cells slots ls hR hH hq' hc hs hl
  subst hi
  obtain ⟨scr, h1, h2, h3, h4, h5⟩ := C.2.2.2.2.2.2.2.2.2.1.2
  refine W.iald (v := .int (B.2.2.2 j)) C.1 C.2.1 (by rw [hH]; exact h1) h2 h3 (by rw [h4]; exact vp_in_nI hj hm) (by rw [nI_clamp (by omega)]; exact h5 _ hj) rfl rfl hd ?_
  exact kk p l e R s m args below meth c D cA Z mc ms C H locs cells slots ls hR hH hq' hc hs hl
theorem kv_slen (hd : decode y.2.2.1 pc = .ok (.arraylength, 1))
    (kk : kv_V y d B Q kc ks n S I (pc + 1) L (.int (nI B.2.2.1) :: st)) : kv_V y d B Q kc ks n S I pc L (.ref B.2.1 :: st) := by
  intro p l e R s m args below meth c D cA Z mc ms C H locs cells slots ls hR hH hq' hc hs hl
  obtain ⟨scr, h1, h2, h3, h4, h5⟩ := C.2.2.2.2.2.2.2.2.2.1.2
  exact W.alen (n := nI B.2.2.1) C.1 C.2.1 (by rw [hH]; exact h1) h2 (by rw [h4] <;> rfl) rfl rfl hd (kk p l e R s m args below meth c D cA Z mc ms C H locs cells slots ls hR hH hq' hc hs hl)
end KVH
