def kCh (nx : Nat → Int32) : Int32 → List Nat → Prop
  | h, [] => h = -1
  | h, k :: l => h = nI k ∧ kCh nx (nx k) l
def kDec : Nat → List Nat → Prop
  | _, [] => True
  | m, k :: l => k < m ∧ kDec k l
theorem kDec_len : ∀ {m : Nat} {l : List Nat}, kDec m l → l.length ≤ m
  | _, [], _ => Nat.zero_le _
  | m, k :: l, h => by
    have := kDec_len h.2
    have := h.1
    simp
    omega
theorem kDec_mem : ∀ {m : Nat} {l : List Nat}, kDec m l → ∀ k ∈ l, k < m
  | _, [], _, k, hk => by cases hk
  | m, k :: l, h, z, hz => by
    rcases List.mem_cons.mp hz with rfl | hz
    · exact h.1
    · have := kDec_mem h.2 z hz
      have := h.1
      omega
theorem kDec_mono {m m' : Nat} (hm : m ≤ m') : ∀ {l : List Nat}, kDec m l → kDec m' l
  | [], _ => trivial
  | _ :: _, h => ⟨Nat.lt_of_lt_of_le h.1 hm, h.2⟩
theorem kCh_congr {nx nx' : Nat → Int32} : ∀ {h : Int32} {l : List Nat}, (∀ k ∈ l, nx' k = nx k) → kCh nx h l → kCh nx' h l
  | _, [], _, hc => hc
  | _, k :: l, he, hc => by
    refine ⟨hc.1, ?_⟩
    rw [he k List.mem_cons_self]
    exact kCh_congr (fun z hz => he z (List.mem_cons_of_mem _ hz)) hc.2
def kKN (x : Int32) : Nat := x.toBitVec.toNat % 256
theorem kKN_and (x : Int32) : x &&& 255 = nI (kKN x) := pk_and x (m := 255) 8 rfl
theorem kKN_lt (x : Int32) : kKN x < 256 := Nat.mod_lt _ (by omega)
def kKey (f p : Nat → Nat) (k : Nat) : Nat := kKN (kFnv f (p k) (p (k + 1) - p k))
def kIx (I : kv_IM) (r : Nat) (f p : Nat → Nat) (m : Nat) (L : Nat → List Nat) : Prop := (∀ j, j < m → I (r + 3) j = kFnv f (p j) (p (j + 1) - p j)) ∧ ∀ key, key < 256 → kCh (I (r + 4)) (I (r + 5) key) (L key) ∧ kDec m (L key) ∧ ∀ k ∈ L key, kKey f p k = key
theorem nI_nm1 {k : Nat} (h : k < 2 ^ 31) : ¬ nI k = (-1 : Int32) := by
  intro q
  have h1 := congrArg Int32.toInt q
  rw [nI_toInt h] at h1
  have h2 : (-1 : Int32).toInt = -1 := by decide
  omega
theorem c_Row_find {d : Nat} {B : kv_B} {n : Nat} {S : kv_SM} {I : kv_IM} (hd : 2 ≤ d) {r nb nk c m r' nb' nk' c' k' : Nat} {f p g q : Nat → Nat} {L : Nat → List Nat} (hS : RowS S r nb nk) (hn : nk < 2 ^ 20) (hb : nb < 2 ^ 20) (hR : kRow I r nb nk f p c) (hX : kIx I r f p m L) (hm : m ≤ c) (hS' : RowS S r' nb' nk') (hn' : nk' < 2 ^ 20) (hb' : nb' < 2 ^ 20) (hR' : kRow I r' nb' nk' g q c') (hk' : k' < c') (e2 : I (r' + 3) k' = kFnv g (q k') (q (k' + 1) - q k')) :
    kv_P y_Row_find d B [.ref r, .ref r', .int (nI k')] n S I (fun v J => I = J ∧ ((∃ k, k ∈ L (kKey g q k') ∧ kLike f p k g q k' ∧ v = some (.int (nI k))) ∨ ((∀ k, k ∈ L (kKey g q k') → ¬ kLike f p k g q k') ∧ v = some (.int (-1))))) := by
  obtain ⟨s0, s1, s2, s3, s4, s5⟩ := id hS
  obtain ⟨s0', s1', s2', s3', -⟩ := id hS'
  obtain ⟨r0, r1, -⟩ := id hR
  have r1' := hR'.2.1
  obtain ⟨x1, x2⟩ := id hX
  obtain ⟨y1, y2, y3⟩ := x2 (kKey g q k') (kKN_lt _)
  refine kv_P.of (by decide +kernel) rfl (Nat.le_of_ble_eq_true rfl) ?_
  refine bl_Row_find_0 s0 rfl s0' rfl s3' ⟨rfl, by omega, by omega⟩ s5 (j8 := kKey g q k') ⟨by rw [e2]; exact kKN_and _, kKN_lt _, by omega⟩ ?_
  have loop : ∀ (l2 l1 : List Nat) (h : Int32) (st : Nat), L (kKey g q k') = l1 ++ l2 → (∀ k ∈ l1, ¬ kLike f p k g q k') → kCh (I (r + 4)) h l2 → st + l2.length ≤ c → kv_V y_Row_find d B (kv_PQ n S (fun v J => I = J ∧ ((∃ k, k ∈ L (kKey g q k') ∧ kLike f p k g q k' ∧ v = some (.int (nI k))) ∨ ((∀ k, k ∈ L (kKey g q k') → ¬ kLike f p k g q k') ∧ v = some (.int (-1)))))) 0 0 n S I 19 [(0, .ref r), (1, .ref r'), (2, .int (nI k')), (3, .int h), (4, .int (nI st))] [] := by
    intro l2
    induction l2 with
    | nil =>
      intro l1 h st e hl hc hst
      have hend : kv_V y_Row_find d B (kv_PQ n S (fun v J => I = J ∧ ((∃ k, k ∈ L (kKey g q k') ∧ kLike f p k g q k' ∧ v = some (.int (nI k))) ∨ ((∀ k, k ∈ L (kKey g q k') → ¬ kLike f p k g q k') ∧ v = some (.int (-1)))))) 0 0 n S I 58 [(0, .ref r), (1, .ref r'), (2, .int (nI k')), (3, .int h), (4, .int (nI st))] [] := by
        refine bl_Row_find_58 ⟨rfl, rfl, rfl, Or.inr ⟨?_, rfl⟩⟩
        intro k hk
        rw [e, List.append_nil] at hk
        exact hl k hk
      refine bl_Row_find_19 s0 (fun _ => hend) (fun _ => ?_)
      exact bl_Row_find_28 (fun _ => hend) (fun hne => absurd hc hne)
    | cons k l2 ih =>
      intro l1 h st e hl hc hst
      obtain ⟨hk, hc⟩ := hc
      subst hk
      have hmem : k ∈ L (kKey g q k') := by rw [e]; simp
      have hkm := kDec_mem y2 k hmem
      simp only [List.length_cons] at hst
      refine bl_Row_find_19 s0 (fun hh => absurd hh (by rw [r0]; exact nI_ge (by omega) (by omega))) (fun _ => ?_)
      refine bl_Row_find_28 (fun hh => absurd hh (nI_nm1 (by omega))) (fun _ => ?_)
      refine bp_Row_find_33 (dc := 1) s0 (c_Row_isLike (by omega) hS hn hb hR (by omega) hS' hn' hb' hR' hk' (x1 k hkm) e2) (by omega) (fun v J hv => ?_)
      obtain ⟨rfl, rfl⟩ := hv
      refine bl_Row_find_40 (fun ht => ?_) (fun ht => ?_)
      · have hnl := kB_e0.mp ht
        refine bl_Row_find_45 s0 rfl s4 ⟨rfl, by omega, by omega⟩ ?_
        rw [nI_1]
        refine ih (l1 ++ [k]) _ (st + 1) (by rw [e]; simp) ?_ hc (by omega)
        intro z hz
        rcases List.mem_append.mp hz with hz | hz
        · exact hl z hz
        · rw [List.mem_singleton.mp hz]; exact hnl
      · have hli := Classical.not_not.mp (fun q => ht (kB_e0.mpr q))
        exact bl_Row_find_43 ⟨rfl, rfl, rfl, Or.inl ⟨k, hmem, hli, rfl⟩⟩
  have := kDec_len y2
  exact loop (L (kKey g q k')) [] _ 0 rfl (fun k hk => by cases hk) y1 (by omega)
def kFi (I : kv_IM) (q : Nat) (v : Int32) (k : Nat) : kv_IM := fun a i => if a = q then (if i < k then v else I a i) else I a i
theorem kFi_ne {I : kv_IM} {q : Nat} {v : Int32} {k a : Nat} (h : a ≠ q) : kFi I q v k a = I a := by
  funext i
  simp [kFi, h]
theorem kFi_at {I : kv_IM} {q : Nat} {v : Int32} {k i : Nat} (h : i < k) : kFi I q v k q i = v := by simp [kFi, h]
theorem kFi_0 {I : kv_IM} {q : Nat} {v : Int32} : kFi I q v 0 = I := by
  funext a i
  simp [kFi]
theorem kFi_up {I : kv_IM} {q : Nat} {v : Int32} {k : Nat} : kv_up (kFi I q v k) q k v = kFi I q v (k + 1) := by
  funext a i
  unfold kv_up kFi
  by_cases ha : a = q
  · subst ha
    simp only [if_true]
    by_cases hi : i = k
    · subst hi
      simp
    · rw [if_neg hi]
      by_cases h2 : i < k
      · rw [if_pos h2, if_pos (by omega)]
      · rw [if_neg h2, if_neg (by omega)]
  · simp [ha]
theorem c_Arr_fill {d : Nat} {B : kv_B} {n : Nat} {S : kv_SM} {I : kv_IM} {a m : Nat} (v : Int32) (ha : S a = kI m) (h0 : 0 < m) (hm : m < 2 ^ 20) : kv_P y_Arr_fill d B [.ref a, .int v] n S I (kQv (kFi I a v m)) := by
  refine kv_P.of (by decide +kernel) rfl (Nat.le_of_ble_eq_true rfl) ?_
  refine bl_Arr_fill_0 ha h0 ?_
  have loop : ∀ (j i : Nat), i + j = m → kv_V y_Arr_fill d B (kv_PQ n S (kQv (kFi I a v m))) 0 0 n S (kFi I a v i) 5 [(0, .ref a), (1, .int v), (2, .int (nI i)), (3, .int (nI m))] [] := by
    intro j
    induction j with
    | zero =>
      intro i hi
      have : i = m := by omega
      subst this
      refine bl_Arr_fill_5 (fun _ => ?_) (fun h => absurd (nI_le (Nat.le_refl _) (by omega)) h)
      exact bl_Arr_fill_20 ⟨rfl, rfl, rfl, rfl⟩
    | succ j ih =>
      intro i hi
      refine bl_Arr_fill_5 (fun h => absurd h (nI_ge (by omega) (by omega))) (fun _ => ?_)
      refine bl_Arr_fill_10 ha ⟨rfl, by omega, by omega⟩ ?_
      rw [kFi_up, nI_1]
      exact ih (i + 1) (by omega)
  have h := loop m 0 (by omega)
  rw [kFi_0] at h
  exact h
theorem c_Row_unchain {d : Nat} {B : kv_B} {n : Nat} {S : kv_SM} {I : kv_IM} (hd : 1 ≤ d) {r nb nk : Nat} (hS : RowS S r nb nk) : kv_P y_Row_unchain d B [.ref r] n S I (kQv (kFi I (r + 5) (-1) 256)) := by
  obtain ⟨s0, s1, s2, s3, s4, s5⟩ := id hS
  refine kv_P.of (by decide +kernel) rfl (Nat.le_of_ble_eq_true rfl) ?_
  refine bp_Row_unchain_0 (dc := 0) s0 rfl (c_Arr_fill (-1) s5 (by omega) (by omega)) (by omega) (fun v J hv => ?_)
  obtain ⟨rfl, rfl⟩ := hv
  exact bl_Row_unchain_8 ⟨rfl, rfl, rfl, rfl⟩
def kChn (I : kv_IM) (r k key : Nat) : kv_IM := kv_up (kv_up I (r + 4) k (I (r + 5) key)) (r + 5) key (nI k)
theorem c_Row_chain {d : Nat} {B : kv_B} {n : Nat} {S : kv_SM} {I : kv_IM} {r nb nk k : Nat} (hS : RowS S r nb nk) (hn : nk < 2 ^ 20) (hk : k < nk) : kv_P y_Row_chain d B [.ref r, .int (nI k)] n S I (kQv (kChn I r k (kKN (I (r + 3) k)))) := by
  obtain ⟨s0, s1, s2, s3, s4, s5⟩ := id hS
  refine kv_P.of (by decide +kernel) rfl (Nat.le_of_ble_eq_true rfl) ?_
  exact bl_Row_chain_0 s0 rfl s3 ⟨rfl, hk, by omega⟩ rfl rfl s5 (j8 := kKN (I (r + 3) k)) ⟨kKN_and _, kKN_lt _, by omega⟩ s4 ⟨rfl, hk, by omega⟩ ⟨rfl, rfl, rfl, rfl⟩
theorem kChn_ne {I : kv_IM} {r k key a : Nat} (h1 : a ≠ r + 4) (h2 : a ≠ r + 5) : kChn I r k key a = I a := by
  funext i
  simp [kChn, kv_up, h1, h2]
theorem kIx_chain {I : kv_IM} {r : Nat} {f p : Nat → Nat} {m : Nat} {L : Nat → List Nat} (hX : kIx I r f p m L) (hs : I (r + 3) m = kFnv f (p m) (p (m + 1) - p m)) : kIx (kChn I r m (kKey f p m)) r f p (m + 1) (fun key => if key = kKey f p m then m :: L key else L key) := by
  obtain ⟨x1, x2⟩ := hX
  refine ⟨fun j hj => ?_, fun key hkey => ?_⟩
  · rw [kChn_ne (by omega) (by omega)]
    by_cases h : j = m
    · subst h; exact hs
    · exact x1 j (by omega)
  · obtain ⟨y1, y2, y3⟩ := x2 key hkey
    have e4 : ∀ k, k < m → kChn I r m (kKey f p m) (r + 4) k = I (r + 4) k := by
      intro k hk
      unfold kChn kv_up
      rw [if_neg (by omega), if_pos rfl, if_neg (by omega)]
    have hc : kCh (kChn I r m (kKey f p m) (r + 4)) (I (r + 5) key) (L key) := kCh_congr (fun k hk => e4 k (kDec_mem y2 k hk)) y1
    dsimp only
    by_cases h : key = kKey f p m
    · rw [if_pos h]
      refine ⟨⟨?_, ?_⟩, ⟨by omega, y2⟩, ?_⟩
      · unfold kChn kv_up
        rw [if_pos rfl, if_pos h]
      · have e5 : kChn I r m (kKey f p m) (r + 4) m = I (r + 5) key := by
          unfold kChn kv_up
          rw [if_neg (by omega), if_pos rfl, if_pos rfl, h]
        rw [e5]
        exact hc
      · intro k hk
        rcases List.mem_cons.mp hk with rfl | hk
        · exact h.symm
        · exact y3 k hk
    · rw [if_neg h]
      have e5 : kChn I r m (kKey f p m) (r + 5) key = I (r + 5) key := by
        unfold kChn kv_up
        rw [if_pos rfl, if_neg h, if_neg (by omega)]
      rw [e5]
      exact ⟨hc, kDec_mono (by omega) y2, y3⟩
def kCov (f p : Nat → Nat) (m : Nat) (L : Nat → List Nat) : Prop := ∀ j, j < m → ∃ k, k ∈ L (kKey f p j) ∧ kLike f p k f p j
theorem kRow_of {I J : kv_IM} {r nb nk : Nat} {f p : Nat → Nat} {c : Nat} (h : kRow I r nb nk f p c) (e0 : J r = I r) (e1 : J (r + 1) = I (r + 1)) (e2 : J (r + 2) = I (r + 2)) : kRow J r nb nk f p c := by
  obtain ⟨r0, r1, r2, r3, r4, r5⟩ := h
  exact ⟨by rw [e0]; exact r0, r1, fun k hk => by rw [e2]; exact r2 k hk, r3, r4, kTx_of r5 e1⟩
theorem kIx_of {I J : kv_IM} {r : Nat} {f p : Nat → Nat} {m : Nat} {L : Nat → List Nat} (h : kIx I r f p m L) (e3 : ∀ j, j < m → J (r + 3) j = I (r + 3) j) (e4 : J (r + 4) = I (r + 4)) (e5 : J (r + 5) = I (r + 5)) : kIx J r f p m L := by
  refine ⟨fun j hj => by rw [e3 j hj]; exact h.1 j hj, fun key hkey => ?_⟩
  rw [e4, e5]
  exact h.2 key hkey
theorem c_Row_index {d : Nat} {B : kv_B} {n : Nat} {S : kv_SM} {I : kv_IM} (hd : 3 ≤ d) {r nb nk c : Nat} {f p : Nat → Nat} (hS : RowS S r nb nk) (hn : nk < 2 ^ 20) (hb : nb < 2 ^ 20) (hR : kRow I r nb nk f p c) :
    kv_P y_Row_index d B [.ref r] n S I (fun v J => v = none ∧ (∀ a, a ≠ r + 3 → a ≠ r + 4 → a ≠ r + 5 → J a = I a) ∧ ∃ L, kIx J r f p c L ∧ kCov f p c L) := by
  obtain ⟨s0, s1, s2, s3, s4, s5⟩ := id hS
  have hc := hR.2.1
  refine kv_P.of (by decide +kernel) rfl (Nat.le_of_ble_eq_true rfl) ?_
  refine bp_Row_index_0 (dc := 1) s0 (c_Row_unchain (by omega) hS) (by omega) (fun v J hv => ?_)
  obtain ⟨rfl, rfl⟩ := hv
  refine bl_Row_index_4 ?_
  have loop : ∀ (j k : Nat) (J : kv_IM) (L : Nat → List Nat), k + j = c → (∀ a, a ≠ r + 3 → a ≠ r + 4 → a ≠ r + 5 → J a = I a) → kIx J r f p k L → kCov f p k L → kv_V y_Row_index d B (kv_PQ n S (fun v J => v = none ∧ (∀ a, a ≠ r + 3 → a ≠ r + 4 → a ≠ r + 5 → J a = I a) ∧ ∃ L, kIx J r f p c L ∧ kCov f p c L)) 0 0 n S J 6 [(0, .ref r), (1, .int (nI k))] [] := by
    intro j
    induction j with
    | zero =>
      intro k J L hk hF hX hV
      have hk' : k = c := by omega
      subst hk'
      have e5 : J r 5 = nI k := by rw [hF r (by omega) (by omega) (by omega)]; exact hR.1
      refine bl_Row_index_6 s0 (fun _ => ?_) (fun h => absurd (by rw [e5]; exact nI_le (Nat.le_refl _) (by omega)) h)
      exact bl_Row_index_46 ⟨rfl, rfl, rfl, hF, L, hX, hV⟩
    | succ j ih =>
      intro k J L hk hF hX hV
      have e5 : J r 5 = nI c := by rw [hF r (by omega) (by omega) (by omega)]; exact hR.1
      have hRJ : kRow J r nb nk f p c := kRow_of hR (hF r (by omega) (by omega) (by omega)) (hF (r + 1) (by omega) (by omega) (by omega)) (hF (r + 2) (by omega) (by omega) (by omega))
      refine bl_Row_index_6 s0 (fun h => absurd h (by rw [e5]; exact nI_ge (by omega) (by omega))) (fun _ => ?_)
      refine bp_Row_index_14 (dc := 0) s0 rfl (c_Row_mixedSum hS hn hb hRJ (by omega)) (by omega) (fun v J' hv => ?_)
      obtain ⟨rfl, rfl⟩ := hv
      generalize hJ1 : kv_up J (r + 3) k (kFnv f (p k) (p (k + 1) - p k)) = J1
      have n3 : ∀ a, a ≠ r + 3 → J1 a = J a := by
        intro a ha
        rw [← hJ1]
        funext i
        simp [kv_up, ha]
      have a3 : J1 (r + 3) k = kFnv f (p k) (p (k + 1) - p k) := by
        rw [← hJ1]
        simp [kv_up]
      have o3 : ∀ i, i ≠ k → J1 (r + 3) i = J (r + 3) i := by
        intro i hi
        rw [← hJ1]
        simp [kv_up, hi]
      have hR1 : kRow J1 r nb nk f p c := kRow_of hRJ (n3 _ (by omega)) (n3 _ (by omega)) (n3 _ (by omega))
      have hX1 : kIx J1 r f p k L := kIx_of hX (fun i hi => o3 i (by omega)) (n3 _ (by omega)) (n3 _ (by omega))
      have hF1 : ∀ a, a ≠ r + 3 → a ≠ r + 4 → a ≠ r + 5 → J1 a = I a := fun a b1 b2 b3 => by rw [n3 a b1]; exact hF a b1 b2 b3
      refine bp_Row_index_24 (dc := 2) s3 ⟨rfl, by omega, by omega⟩ s0 (by
        rw [hJ1]
        exact c_Row_find (by omega) hS hn hb hR1 hX1 (by omega) hS hn hb hR1 (by omega) a3) (by omega) (fun v J' hv => ?_)
      obtain ⟨rfl, hv⟩ := hv
      rcases hv with ⟨z, hz, hl, rfl⟩ | ⟨hno, rfl⟩
      · have hzk := kDec_mem (hX1.2 _ (kKN_lt _)).2.1 z hz
        refine bl_Row_index_31 (fun _ => ?_) (fun h => absurd h (nI_nm1 (by omega)))
        refine bl_Row_index_40 ?_
        rw [nI_1]
        refine ih (k + 1) J1 L (by omega) hF1 ⟨fun i hi => ?_, fun key hkey => ?_⟩ (fun i hi => ?_)
        · by_cases h : i = k
          · subst h; exact a3
          · exact hX1.1 i (by omega)
        · obtain ⟨y1, y2, y3⟩ := hX1.2 key hkey
          exact ⟨y1, kDec_mono (by omega) y2, y3⟩
        · by_cases h : i = k
          · subst h; exact ⟨z, hz, hl⟩
          · exact hV i (by omega)
      · refine bl_Row_index_31 (fun h => absurd rfl h) (fun _ => ?_)
        refine bp_Row_index_35 (dc := 0) s0 (c_Row_chain hS hn (by omega)) (by omega) (fun v J' hv => ?_)
        obtain ⟨rfl, rfl⟩ := hv
        refine bl_Row_index_40 ?_
        rw [nI_1]
        have hkey : kKN (J1 (r + 3) k) = kKey f p k := by rw [a3]; rfl
        rw [hkey]
        refine ih (k + 1) _ _ (by omega) (fun a b1 b2 b3 => by rw [kChn_ne b2 b3]; exact hF1 a b1 b2 b3) (kIx_chain hX1 a3) (fun i hi => ?_)
        by_cases h : i = k
        · subst h
          exact ⟨i, by simp, kLike_rfl⟩
        · obtain ⟨z, hz, hl⟩ := hV i (by omega)
          refine ⟨z, ?_, hl⟩
          show z ∈ (if kKey f p i = kKey f p k then k :: L (kKey f p i) else L (kKey f p i))
          split
          · exact List.mem_cons_of_mem _ hz
          · exact hz
  refine loop c 0 _ (fun _ => []) (by omega) (fun a h3 h4 h5 => kFi_ne h5) ⟨fun j hj => absurd hj (by omega), fun key hkey => ⟨kFi_at hkey, trivial, fun k hk => by cases hk⟩⟩ (fun j hj => absurd hj (by omega))
