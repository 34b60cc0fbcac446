theorem c_Row_blocksIn {d : Nat} {B : kv_B} {n : Nat} {S : kv_SM} {I : kv_IM} (hd : 3 ≤ d) {r nb nk c r' nb' nk' c' : Nat} {f p g q : Nat → Nat} {L : Nat → List Nat} (hS : RowS S r nb nk) (hn : nk < 2 ^ 20) (hb : nb < 2 ^ 20) (hR : kRow I r nb nk f p c) (he : ∀ k, k < c → I (r + 3) k = kFnv f (p k) (p (k + 1) - p k)) (hS' : RowS S r' nb' nk') (hn' : nk' < 2 ^ 20) (hb' : nb' < 2 ^ 20) (hR' : kRow I r' nb' nk' g q c') (hX : kIx I r' g q c' L) (hC : kCov g q c' L) :
    kv_P y_Row_blocksIn d B [.ref r, .ref r'] n S I (kQi (nI (kSm (fun k => if kHas f p k g q c' then 1 else 0) c)) I) := by
  have s0 := hS.1
  have s0' := hS'.1
  have hc := hR.2.1
  have hc' := hR'.2.1
  refine kv_P.of (by decide +kernel) rfl (Nat.le_of_ble_eq_true rfl) ?_
  refine bl_Row_blocksIn_0 ?_
  have loop : ∀ (j k : Nat), k + j = c → kv_V y_Row_blocksIn d B (kv_PQ n S (kQi (nI (kSm (fun k => if kHas f p k g q c' then 1 else 0) c)) I)) 0 0 n S I 4 [(0, .ref r), (1, .ref r'), (2, .int (nI (kSm (fun k => if kHas f p k g q c' then 1 else 0) k))), (3, .int (nI k))] [] := by
    intro j
    induction j with
    | zero =>
      intro k hk
      have : k = c := by omega
      subst this
      refine bl_Row_blocksIn_4 s0 (fun _ => ?_) (fun h => absurd (by rw [hR.1]; exact nI_le (Nat.le_refl _) (by omega)) h)
      exact bl_Row_blocksIn_31 (kQi_end rfl)
    | succ j ih =>
      intro k hk
      refine bl_Row_blocksIn_4 s0 (fun h => absurd h (by rw [hR.1]; exact nI_ge (by omega) (by omega))) (fun _ => ?_)
      refine bp_Row_blocksIn_12 (dc := 2) s0' (c_Row_find (by omega) hS' hn' hb' hR' hX (Nat.le_refl _) hS hn hb hR (by omega) (he k (by omega))) (by omega) (fun v J hv => ?_)
      obtain ⟨rfl, hv⟩ := hv
      have hstep := ih (k + 1) (by omega)
      rw [kSm] at hstep
      rcases hv with ⟨z, hz, hl, rfl⟩ | ⟨hno, rfl⟩
      · have hh := (kFind_has hX hC).mp ⟨z, hz, hl⟩
        rw [if_pos hh] at hstep
        have hzc := kDec_mem (hX.2 _ (kKN_lt _)).2.1 z hz
        refine bl_Row_blocksIn_18 (fun h => absurd h (nI_nm1 (by omega))) (fun _ => ?_)
        refine bl_Row_blocksIn_22 (bl_Row_blocksIn_25 ?_)
        rw [nI_1, nI_1]
        exact hstep
      · have hh : ¬ kHas f p k g q c' = true := fun q => by
          obtain ⟨z, hz, hl⟩ := (kFind_has hX hC).mpr q
          exact hno z hz hl
        rw [if_neg hh] at hstep
        refine bl_Row_blocksIn_18 (fun _ => ?_) (fun h => absurd rfl h)
        refine bl_Row_blocksIn_25 ?_
        rw [nI_1]
        exact hstep
  exact loop c 0 (by omega)
theorem c_Row_bytesIn {d : Nat} {B : kv_B} {n : Nat} {S : kv_SM} {I : kv_IM} (hd : 3 ≤ d) {r nb nk c r' nb' nk' c' : Nat} {f p g q : Nat → Nat} {L : Nat → List Nat} (hS : RowS S r nb nk) (hn : nk < 2 ^ 20) (hb : nb < 2 ^ 20) (hR : kRow I r nb nk f p c) (he : ∀ k, k < c → I (r + 3) k = kFnv f (p k) (p (k + 1) - p k)) (hS' : RowS S r' nb' nk') (hn' : nk' < 2 ^ 20) (hb' : nb' < 2 ^ 20) (hR' : kRow I r' nb' nk' g q c') (hX : kIx I r' g q c' L) (hC : kCov g q c' L) :
    kv_P y_Row_bytesIn d B [.ref r, .ref r'] n S I (kQi (nI (kSm (fun k => if kHas f p k g q c' then p (k + 1) - p k else 0) c)) I) := by
  have s0 := hS.1
  have s0' := hS'.1
  have hc := hR.2.1
  have hc' := hR'.2.1
  refine kv_P.of (by decide +kernel) rfl (Nat.le_of_ble_eq_true rfl) ?_
  refine bl_Row_bytesIn_0 ?_
  have loop : ∀ (j k : Nat), k + j = c → kv_V y_Row_bytesIn d B (kv_PQ n S (kQi (nI (kSm (fun k => if kHas f p k g q c' then p (k + 1) - p k else 0) c)) I)) 0 0 n S I 4 [(0, .ref r), (1, .ref r'), (2, .int (nI (kSm (fun k => if kHas f p k g q c' then p (k + 1) - p k else 0) k))), (3, .int (nI k))] [] := by
    intro j
    induction j with
    | zero =>
      intro k hk
      have : k = c := by omega
      subst this
      refine bl_Row_bytesIn_4 s0 (fun _ => ?_) (fun h => absurd (by rw [hR.1]; exact nI_le (Nat.le_refl _) (by omega)) h)
      exact bl_Row_bytesIn_36 (kQi_end rfl)
    | succ j ih =>
      intro k hk
      refine bl_Row_bytesIn_4 s0 (fun h => absurd h (by rw [hR.1]; exact nI_ge (by omega) (by omega))) (fun _ => ?_)
      refine bp_Row_bytesIn_12 (dc := 2) s0' (c_Row_find (by omega) hS' hn' hb' hR' hX (Nat.le_refl _) hS hn hb hR (by omega) (he k (by omega))) (by omega) (fun v J hv => ?_)
      obtain ⟨rfl, hv⟩ := hv
      have hstep := ih (k + 1) (by omega)
      rw [kSm] at hstep
      rcases hv with ⟨z, hz, hl, rfl⟩ | ⟨hno, rfl⟩
      · have hh := (kFind_has hX hC).mp ⟨z, hz, hl⟩
        rw [if_pos hh] at hstep
        have hzc := kDec_mem (hX.2 _ (kKN_lt _)).2.1 z hz
        refine bl_Row_bytesIn_18 (fun h => absurd h (nI_nm1 (by omega))) (fun _ => ?_)
        refine bp_Row_bytesIn_22 (dc := 0) s0 (c_Row_bytesOf hS hn (by omega)) (by omega) (fun v J hv => ?_)
        obtain ⟨rfl, rfl⟩ := hv
        refine bl_Row_bytesIn_28 (bl_Row_bytesIn_30 ?_)
        have := hR.2.2.2.1 k (by omega)
        rw [hR.2.2.1 k (by omega), hR.2.2.1 (k + 1) (by omega), pk_sub (by omega), nI_add, nI_1]
        exact hstep
      · have hh : ¬ kHas f p k g q c' = true := fun q => by
          obtain ⟨z, hz, hl⟩ := (kFind_has hX hC).mpr q
          exact hno z hz hl
        rw [if_neg hh] at hstep
        refine bl_Row_bytesIn_18 (fun _ => ?_) (fun h => absurd rfl h)
        refine bl_Row_bytesIn_30 ?_
        rw [nI_1]
        exact hstep
  exact loop c 0 (by omega)
def kFst (P : Nat → Bool) : Nat → Nat → Nat
  | 0, k => k
  | j + 1, k => if P k then kFst P j (k + 1) else k
def kMin (a b : Nat) : Nat := if b < a then b else a
theorem kMin_I {a b : Nat} (ha : a < 2 ^ 31) (hb : b < 2 ^ 31) : (if nI b < nI a then nI b else nI a) = nI (kMin a b) := by
  unfold kMin
  by_cases h : b < a
  · rw [if_pos h, if_pos ((nI_ltI hb ha).mpr h)]
  · rw [if_neg h, if_neg (fun q => h ((nI_ltI hb ha).mp q))]
theorem c_Row_firstLike {d : Nat} {B : kv_B} {n : Nat} {S : kv_SM} {I : kv_IM} (hd : 2 ≤ d) {r nb nk c r' nb' nk' c' : Nat} {f p g q : Nat → Nat} (hS : RowS S r nb nk) (hn : nk < 2 ^ 20) (hb : nb < 2 ^ 20) (hR : kRow I r nb nk f p c) (he : ∀ k, k < c → I (r + 3) k = kFnv f (p k) (p (k + 1) - p k)) (hS' : RowS S r' nb' nk') (hn' : nk' < 2 ^ 20) (hb' : nb' < 2 ^ 20) (hR' : kRow I r' nb' nk' g q c') (he' : ∀ k, k < c' → I (r' + 3) k = kFnv g (q k) (q (k + 1) - q k)) :
    kv_P y_Row_firstLike d B [.ref r, .ref r'] n S I (kQi (nI (kFst (fun k => decide (kLike f p k g q k)) (kMin c c') 0)) I) := by
  have hc := hR.2.1
  have hc' := hR'.2.1
  have hmin : kMin c c' ≤ c ∧ kMin c c' ≤ c' := by unfold kMin; split <;> omega
  refine kv_P.of (by decide +kernel) rfl (Nat.le_of_ble_eq_true rfl) ?_
  refine bl_Row_firstLike_0 (by omega) hS.1 hS'.1 ?_
  rw [hR.1, hR'.1, kMin_I (by omega) (by omega)]
  have loop : ∀ (j k : Nat), k + j = kMin c c' → kv_V y_Row_firstLike d B (kv_PQ n S (kQi (nI (kFst (fun k => decide (kLike f p k g q k)) j k)) I)) 0 0 n S I 14 [(0, .ref r), (1, .ref r'), (2, .int (nI (kMin c c'))), (3, .int (nI k))] [] := by
    intro j
    induction j with
    | zero =>
      intro k hk
      refine bl_Row_firstLike_14 (fun _ => ?_) (fun h => absurd (nI_le (by omega) (by omega)) h)
      refine bl_Row_firstLike_37 (kQi_end ?_)
      rw [kFst, show k = kMin c c' by omega]
    | succ j ih =>
      intro k hk
      refine bl_Row_firstLike_14 (fun h => absurd h (nI_ge (by omega) (by omega))) (fun _ => ?_)
      refine bp_Row_firstLike_19 (dc := 1) hS.1 (c_Row_isLike (by omega) hS hn hb hR (by omega) hS' hn' hb' hR' (by omega) (he k (by omega)) (he' k (by omega))) (by omega) (fun v J hv => ?_)
      obtain ⟨rfl, rfl⟩ := hv
      refine bl_Row_firstLike_26 (fun h => ?_) (fun h => ?_)
      · have hl := Classical.not_not.mp (fun q => h (kB_e0.mpr q))
        refine bl_Row_firstLike_31 ?_
        rw [kFst, if_pos (decide_eq_true hl), nI_1]
        exact ih (k + 1) (by omega)
      · have hl := kB_e0.mp h
        refine bl_Row_firstLike_29 (kQi_end ?_)
        rw [kFst, if_neg (by simpa using hl)]
  exact loop _ 0 (Nat.zero_add _)
theorem c_Row_lastLike {d : Nat} {B : kv_B} {n : Nat} {S : kv_SM} {I : kv_IM} (hd : 2 ≤ d) {r nb nk c r' nb' nk' c' : Nat} {f p g q : Nat → Nat} (hS : RowS S r nb nk) (hn : nk < 2 ^ 20) (hb : nb < 2 ^ 20) (hR : kRow I r nb nk f p c) (he : ∀ k, k < c → I (r + 3) k = kFnv f (p k) (p (k + 1) - p k)) (hS' : RowS S r' nb' nk') (hn' : nk' < 2 ^ 20) (hb' : nb' < 2 ^ 20) (hR' : kRow I r' nb' nk' g q c') (he' : ∀ k, k < c' → I (r' + 3) k = kFnv g (q k) (q (k + 1) - q k)) :
    kv_P y_Row_lastLike d B [.ref r, .ref r'] n S I (kQi (nI (kFst (fun k => decide (kLike f p (c - 1 - k) g q (c' - 1 - k))) (kMin c c') 0)) I) := by
  have hc := hR.2.1
  have hc' := hR'.2.1
  have hmin : kMin c c' ≤ c ∧ kMin c c' ≤ c' := by unfold kMin; split <;> omega
  refine kv_P.of (by decide +kernel) rfl (Nat.le_of_ble_eq_true rfl) ?_
  refine bl_Row_lastLike_0 (by omega) hS.1 hS'.1 ?_
  rw [hR.1, hR'.1, kMin_I (by omega) (by omega)]
  have loop : ∀ (j k : Nat), k + j = kMin c c' → kv_V y_Row_lastLike d B (kv_PQ n S (kQi (nI (kFst (fun k => decide (kLike f p (c - 1 - k) g q (c' - 1 - k))) j k)) I)) 0 0 n S I 14 [(0, .ref r), (1, .ref r'), (2, .int (nI (kMin c c'))), (3, .int (nI k))] [] := by
    intro j
    induction j with
    | zero =>
      intro k hk
      refine bl_Row_lastLike_14 (fun _ => ?_) (fun h => absurd (nI_le (by omega) (by omega)) h)
      refine bl_Row_lastLike_51 (kQi_end ?_)
      rw [kFst, show k = kMin c c' by omega]
    | succ j ih =>
      intro k hk
      refine bl_Row_lastLike_14 (fun h => absurd h (nI_ge (by omega) (by omega))) (fun _ => ?_)
      refine bp_Row_lastLike_19 (dc := 1) hS.1 hS'.1 (by
        have e1 : nI c - 1 - nI k = nI (c - 1 - k) := by
          show nI c - nI 1 - nI k = _
          rw [pk_sub (by omega), pk_sub (by omega)]
        have e2 : nI c' - 1 - nI k = nI (c' - 1 - k) := by
          show nI c' - nI 1 - nI k = _
          rw [pk_sub (by omega), pk_sub (by omega)]
        rw [hR.1, hR'.1, e1, e2]
        exact c_Row_isLike (by omega) hS hn hb hR (by omega) hS' hn' hb' hR' (by omega) (he _ (by omega)) (he' _ (by omega))) (by omega) (fun v J hv => ?_)
      obtain ⟨rfl, rfl⟩ := hv
      refine bl_Row_lastLike_40 (fun h => ?_) (fun h => ?_)
      · have hl := Classical.not_not.mp (fun q => h (kB_e0.mpr q))
        refine bl_Row_lastLike_45 ?_
        rw [kFst, if_pos (decide_eq_true hl), nI_1]
        exact ih (k + 1) (by omega)
      · have hl := kB_e0.mp h
        refine bl_Row_lastLike_43 (kQi_end ?_)
        rw [kFst, if_neg (by simpa using hl)]
  exact loop _ 0 (Nat.zero_add _)
def kBk (p : Nat → Nat) (c i : Nat) : Nat → Nat → Nat
  | 0, k => k
  | j + 1, k => if k + 1 < c ∧ p (k + 1) ≤ i then kBk p c i j (k + 1) else k
theorem kBk_lt {p : Nat → Nat} {c i : Nat} : ∀ {j k : Nat}, k < c → kBk p c i j k < c ∧ k ≤ kBk p c i j k
  | 0, k, h => ⟨h, Nat.le_refl _⟩
  | j + 1, k, h => by
    rw [kBk]
    split
    · rename_i h2
      have := kBk_lt (p := p) (c := c) (i := i) (j := j) (k := k + 1) h2.1
      exact ⟨this.1, by omega⟩
    · exact ⟨h, Nat.le_refl _⟩
theorem kBk_le {p : Nat → Nat} {c i : Nat} : ∀ {j k : Nat}, p k ≤ i → p (kBk p c i j k) ≤ i
  | 0, k, h => h
  | j + 1, k, h => by
    rw [kBk]
    split
    · rename_i h2
      exact kBk_le h2.2
    · exact h
theorem c_Row_startOfBlockWith {d : Nat} {B : kv_B} {n : Nat} {S : kv_SM} {I : kv_IM} {r nb nk c i : Nat} {f p : Nat → Nat} (hS : RowS S r nb nk) (hn : nk < 2 ^ 20) (hb : nb < 2 ^ 20) (hR : kRow I r nb nk f p c) (hc : 0 < c) (hi : i < 2 ^ 20) : kv_P y_Row_startOfBlockWith d B [.ref r, .int (nI i)] n S I (kQi (nI (p (kBk p c i c 0))) I) := by
  obtain ⟨s0, s1, s2, -⟩ := id hS
  obtain ⟨r0, r1, r2, r3, r4, r5⟩ := id hR
  refine kv_P.of (by decide +kernel) rfl (Nat.le_of_ble_eq_true rfl) ?_
  refine bl_Row_startOfBlockWith_0 ?_
  have loop : ∀ (j k : Nat), k < c → c ≤ k + j → kv_V y_Row_startOfBlockWith d B (kv_PQ n S (kQi (nI (p (kBk p c i j k))) I)) 0 0 n S I 2 [(0, .ref r), (1, .int (nI i)), (2, .int (nI k))] [] := by
    intro j
    induction j with
    | zero => intro k h1 h2; omega
    | succ j ih =>
      intro k h1 h2
      have hend : ¬ (k + 1 < c ∧ p (k + 1) ≤ i) → kv_V y_Row_startOfBlockWith d B (kv_PQ n S (kQi (nI (p (kBk p c i (j + 1) k))) I)) 0 0 n S I 30 [(0, .ref r), (1, .int (nI i)), (2, .int (nI k))] [] := by
        intro hne
        refine bl_Row_startOfBlockWith_30 s0 rfl s2 ⟨rfl, by omega, by omega⟩ (kQi_end ?_)
        rw [r2 k (by omega), kBk, if_neg hne]
      refine bl_Row_startOfBlockWith_2 s0 (fun h => ?_) (fun h => ?_)
      · rw [r0, nI_1, nI_leI (by omega) (by omega)] at h
        exact hend (fun q => by omega)
      · rw [r0, nI_1, nI_leI (by omega) (by omega)] at h
        have hp := kMon r3 (i := k + 1) (k := c) (by omega) (Nat.le_refl _)
        refine bl_Row_startOfBlockWith_12 s0 rfl s2 (j4 := k + 1) ⟨nI_1 k, by omega, by omega⟩ (fun h3 => ?_) (fun h3 => ?_)
        · rw [r2 (k + 1) (by omega), nI_ltI (by omega) (by omega)] at h3
          exact hend (fun q => by omega)
        · rw [r2 (k + 1) (by omega), nI_ltI (by omega) (by omega)] at h3
          refine bl_Row_startOfBlockWith_24 ?_
          rw [nI_1, kBk, if_pos ⟨by omega, by omega⟩]
          exact ih (k + 1) (by omega) (by omega)
  exact loop c 0 hc (by omega)
def kH (m : Nat) (tab : Nat → Int32) (f : Nat → Nat) (st : Nat) : Nat → Int32
  | 0 => 0
  | k + 1 => kNx m tab f st (k + 1) (kH m tab f st k)
theorem c_Rul_numberAt {d : Nat} {B : kv_B} {n : Nat} {S : kv_SM} {I : kv_IM} (hd : 2 ≤ d) {r a mb len st i m : Nat} {f : Nat → Nat} (hS : RulS S r) (ha : S a = kI mb) (hmb : mb < 2 ^ 20) (hT : kTx I a 0 f len) (hl : len ≤ mb) (hm : I r 1 = nI m) (hm3 : m ≤ 3) (h1 : st ≤ i) (h2 : i < len) :
    kv_P y_Rul_numberAt d B [.ref r, .ref a, .int (nI st), .int (nI i)] n S I (kQi (kH m (I (r + 1)) f st (i + 1 - st)) I) := by
  refine kv_P.of (by decide +kernel) rfl (Nat.le_of_ble_eq_true rfl) ?_
  refine bl_Rul_numberAt_0 ?_
  have loop : ∀ (j k : Nat), k + j = i + 1 - st → kv_V y_Rul_numberAt d B (kv_PQ n S (kQi (kH m (I (r + 1)) f st (i + 1 - st)) I)) 0 0 n S I 6 [(0, .ref r), (1, .ref a), (2, .int (nI st)), (3, .int (nI i)), (4, .int (kH m (I (r + 1)) f st k)), (5, .int (nI (st + k)))] [] := by
    intro j
    induction j with
    | zero =>
      intro k hk
      refine bl_Rul_numberAt_6 (fun _ => ?_) (fun h => absurd (nI_lt (by omega) (by omega)) h)
      refine bl_Rul_numberAt_30 (kQi_end ?_)
      rw [show k = i + 1 - st by omega]
    | succ j ih =>
      intro k hk
      refine bl_Rul_numberAt_6 (fun h => absurd h (nI_nlt (by omega) (by omega))) (fun _ => ?_)
      refine bp_Rul_numberAt_12 (dc := 1) hS.1 (c_Rul_numberWith (k := k + 1) (by omega) _ hS ha (by omega) hT hl (by omega) (by omega) hm hm3) (by omega) (fun v J hv => ?_)
      obtain ⟨rfl, rfl⟩ := hv
      refine bl_Rul_numberAt_22 ?_
      rw [nI_1]
      exact ih (k + 1) (by omega)
  exact loop _ 0 (Nat.zero_add _)
