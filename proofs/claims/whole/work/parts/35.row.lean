def kFnv (f : Nat → Nat) (lo : Nat) : Nat → Int32
  | 0 => -2128831035
  | m + 1 => (kFnv f lo m ^^^ nI (f (lo + m))) * 16777619
def kRm (x : Int32) : Int32 := x - x / 65521 * 65521
def kDa (f : Nat → Nat) (lo : Nat) : Nat → Int32
  | 0 => 1
  | m + 1 => kRm (kDa f lo m + nI (f (lo + m)))
def kDb (f : Nat → Nat) (lo : Nat) : Nat → Int32
  | 0 => 0
  | m + 1 => kRm (kDb f lo m + kDa f lo (m + 1))
def kRow (I : kv_IM) (r nb nk : Nat) (f p : Nat → Nat) (c : Nat) : Prop := I r 5 = nI c ∧ c ≤ nk ∧ (∀ k, k ≤ c → I (r + 2) k = nI (p k)) ∧ (∀ k, k < c → p k < p (k + 1)) ∧ p c ≤ nb ∧ kTx I (r + 1) 0 f (p c)
theorem kMon {p : Nat → Nat} {c : Nat} (h : ∀ k, k < c → p k < p (k + 1)) {i : Nat} : ∀ {k : Nat}, i ≤ k → k ≤ c → p i ≤ p k
  | 0, h1, _ => by rw [show i = 0 by omega]; exact Nat.le_refl _
  | k + 1, h1, h2 => by
    by_cases hik : i = k + 1
    · rw [hik]; exact Nat.le_refl _
    · have h3 := kMon h (i := i) (k := k) (by omega) (by omega)
      have h4 := h k (by omega)
      omega
theorem c_Row_mixedSum {d : Nat} {B : kv_B} {n : Nat} {S : kv_SM} {I : kv_IM} {r nb nk c k : Nat} {f p : Nat → Nat} (hS : RowS S r nb nk) (hn : nk < 2 ^ 20) (hb : nb < 2 ^ 20) (hR : kRow I r nb nk f p c) (hk : k < c) : kv_P y_Row_mixedSum d B [.ref r, .int (nI k)] n S I (kQi (kFnv f (p k) (p (k + 1) - p k)) I) := by
  obtain ⟨s0, s1, s2, -⟩ := id hS
  obtain ⟨r0, r1, r2, r3, r4, r5⟩ := id hR
  have m1 := r3 k hk
  have m2 := kMon r3 (i := k + 1) (k := c) (by omega) (Nat.le_refl _)
  have ek := r2 k (by omega)
  have ek1 := r2 (k + 1) (by omega)
  refine kv_P.of (by decide +kernel) rfl (Nat.le_of_ble_eq_true rfl) ?_
  refine bl_Row_mixedSum_0 s0 rfl s2 ⟨rfl, by omega, by omega⟩ ?_
  rw [ek]
  have loop : ∀ (j i : Nat), i + j = p (k + 1) - p k → kv_V y_Row_mixedSum d B (kv_PQ n S (kQi (kFnv f (p k) (p (k + 1) - p k)) I)) 0 0 n S I 10 [(0, .ref r), (1, .int (nI k)), (2, .int (kFnv f (p k) i)), (3, .int (nI (p k + i)))] [] := by
    intro j
    induction j with
    | zero =>
      intro i hi
      refine bl_Row_mixedSum_10 s0 rfl s2 (j4 := k + 1) ⟨nI_1 k, by omega, by omega⟩ (fun _ => ?_) (fun h => absurd (by rw [ek1]; exact nI_le (by omega) (by omega)) h)
      refine bl_Row_mixedSum_40 (kQi_end ?_)
      rw [show i = p (k + 1) - p k by omega]
    | succ j ih =>
      intro i hi
      refine bl_Row_mixedSum_10 s0 rfl s2 (j4 := k + 1) ⟨nI_1 k, by omega, by omega⟩ (fun h => absurd h (by rw [ek1]; exact nI_ge (by omega) (by omega))) (fun _ => ?_)
      refine bl_Row_mixedSum_22 s0 rfl s1 ⟨rfl, by omega, by omega⟩ ?_
      have t := (r5 (p k + i) (by omega)).1
      rw [Nat.zero_add] at t
      rw [t, nI_1]
      exact ih (i + 1) (by omega)
  exact loop _ 0 (Nat.zero_add _)
theorem c_Row_doubleSum {d : Nat} {B : kv_B} {n : Nat} {S : kv_SM} {I : kv_IM} {r nb nk c k : Nat} {f p : Nat → Nat} (hS : RowS S r nb nk) (hn : nk < 2 ^ 20) (hb : nb < 2 ^ 20) (hR : kRow I r nb nk f p c) (hk : k < c) : kv_P y_Row_doubleSum d B [.ref r, .int (nI k)] n S I (kQl (65536 * (kDb f (p k) (p (k + 1) - p k)).toInt64 + (kDa f (p k) (p (k + 1) - p k)).toInt64) I) := by
  obtain ⟨s0, s1, s2, -⟩ := id hS
  obtain ⟨r0, r1, r2, r3, r4, r5⟩ := id hR
  have m1 := r3 k hk
  have m2 := kMon r3 (i := k + 1) (k := c) (by omega) (Nat.le_refl _)
  have ek := r2 k (by omega)
  have ek1 := r2 (k + 1) (by omega)
  refine kv_P.of (by decide +kernel) rfl (Nat.le_of_ble_eq_true rfl) ?_
  refine bl_Row_doubleSum_0 s0 rfl s2 ⟨rfl, by omega, by omega⟩ ?_
  rw [ek]
  have loop : ∀ (j i : Nat), i + j = p (k + 1) - p k → kv_V y_Row_doubleSum d B (kv_PQ n S (kQl (65536 * (kDb f (p k) (p (k + 1) - p k)).toInt64 + (kDa f (p k) (p (k + 1) - p k)).toInt64) I)) 0 0 n S I 12 [(0, .ref r), (1, .int (nI k)), (2, .int (kDa f (p k) i)), (3, .int (kDb f (p k) i)), (4, .int (nI (p k + i)))] [] := by
    intro j
    induction j with
    | zero =>
      intro i hi
      refine bl_Row_doubleSum_12 s0 rfl s2 (j4 := k + 1) ⟨nI_1 k, by omega, by omega⟩ (fun _ => ?_) (fun h => absurd (by rw [ek1]; exact nI_le (by omega) (by omega)) h)
      refine bl_Row_doubleSum_51 ⟨rfl, rfl, ?_, rfl⟩
      rw [show i = p (k + 1) - p k by omega]
    | succ j ih =>
      intro i hi
      refine bl_Row_doubleSum_12 s0 rfl s2 (j4 := k + 1) ⟨nI_1 k, by omega, by omega⟩ (fun h => absurd h (by rw [ek1]; exact nI_ge (by omega) (by omega))) (fun _ => ?_)
      refine bl_Row_doubleSum_25 s0 rfl s1 ⟨rfl, by omega, by omega⟩ ?_
      have t := (r5 (p k + i) (by omega)).1
      rw [Nat.zero_add] at t
      rw [t, nI_1]
      exact ih (i + 1) (by omega)
  exact loop _ 0 (Nat.zero_add _)
theorem c_Md_digestOf {d : Nat} {B : kv_B} {n : Nat} {S : kv_SM} {I : kv_IM} {a ma off lo hi : Nat} {f : Nat → Nat} {len : Nat} (man : Int32) (ha : S a = kI ma) (hma : ma < 2 ^ 20) (hT : kTx I a off f len) (hoff : off + len ≤ ma) (h1 : lo ≤ hi) (h2 : hi ≤ len) :
    kv_P y_Md_digestOf d B [.ref a, .int (nI (off + lo)), .int (nI (off + hi)), .int man] n S I (kQl (if man = 0 then (kFnv f lo (hi - lo)).toInt64 &&& 4294967295 else 65536 * (kDb f lo (hi - lo)).toInt64 + (kDa f lo (hi - lo)).toInt64) I) := by
  refine kv_P.of (by decide +kernel) rfl (Nat.le_of_ble_eq_true rfl) ?_
  refine bl_Md_digestOf_0 ?_
  have loop : ∀ (j i : Nat), i + j = hi - lo → kv_V y_Md_digestOf d B (kv_PQ n S (kQl (if man = 0 then (kFnv f lo (hi - lo)).toInt64 &&& 4294967295 else 65536 * (kDb f lo (hi - lo)).toInt64 + (kDa f lo (hi - lo)).toInt64) I)) 0 0 n S I 13 [(0, .ref a), (1, .int (nI (off + lo))), (2, .int (nI (off + hi))), (3, .int man), (4, .int (kFnv f lo i)), (5, .int (kDa f lo i)), (6, .int (kDb f lo i)), (7, .int (nI (off + lo + i)))] [] := by
    intro j
    induction j with
    | zero =>
      intro i hi'
      refine bl_Md_digestOf_13 (fun _ => ?_) (fun h => absurd (nI_le (by omega) (by omega)) h)
      refine bl_Md_digestOf_59 (fun h => ?_) (fun h => ?_)
      · refine bl_Md_digestOf_73 (bl_Md_digestOf_84 ⟨rfl, rfl, ?_, rfl⟩)
        rw [if_neg h, show i = hi - lo by omega]
      · refine bl_Md_digestOf_63 (bl_Md_digestOf_84 ⟨rfl, rfl, ?_, rfl⟩)
        rw [if_pos h, show i = hi - lo by omega]
    | succ j ih =>
      intro i hi'
      refine bl_Md_digestOf_13 (fun h => absurd h (nI_ge (by omega) (by omega))) (fun _ => ?_)
      refine bl_Md_digestOf_19 ha ⟨rfl, by omega, by omega⟩ ?_
      have t := (hT (lo + i) (by omega)).1
      rw [← Nat.add_assoc] at t
      rw [t, nI_1]
      exact ih (i + 1) (by omega)
  exact loop _ 0 (Nat.zero_add _)
abbrev kSame (f : Nat → Nat) (a : Nat) (g : Nat → Nat) (b n : Nat) : Prop := ∀ i, i < n → f (a + i) = g (b + i)
abbrev kLike (f p : Nat → Nat) (k : Nat) (g q : Nat → Nat) (m : Nat) : Prop := p (k + 1) - p k = q (m + 1) - q m ∧ kSame f (p k) g (q m) (p (k + 1) - p k)
theorem kFnv_congr {f g : Nat → Nat} {a b : Nat} : ∀ {n : Nat}, kSame f a g b n → kFnv f a n = kFnv g b n
  | 0, _ => rfl
  | n + 1, h => by
    rw [kFnv, kFnv, kFnv_congr (n := n) (fun i hi => h i (by omega)), h n (by omega)]
theorem kLike_rfl {f p : Nat → Nat} {k : Nat} : kLike f p k f p k := ⟨rfl, fun _ _ => rfl⟩
theorem kLike_symm {f p g q : Nat → Nat} {k m : Nat} (h : kLike f p k g q m) : kLike g q m f p k := ⟨h.1.symm, fun i hi => (h.2 i (by rw [h.1]; exact hi)).symm⟩
theorem kLike_trans {f p g q h r : Nat → Nat} {k m l : Nat} (h1 : kLike f p k g q m) (h2 : kLike g q m h r l) : kLike f p k h r l := ⟨h1.1.trans h2.1, fun i hi => (h1.2 i hi).trans (h2.2 i (by rw [← h1.1]; exact hi))⟩
theorem kLike_fnv {f p g q : Nat → Nat} {k m : Nat} (h : kLike f p k g q m) : kFnv f (p k) (p (k + 1) - p k) = kFnv g (q m) (q (m + 1) - q m) := by
  rw [kFnv_congr h.2, h.1]
theorem c_Md_isSame {d : Nat} {B : kv_B} {n : Nat} {S : kv_SM} {I : kv_IM} {a b ma mb oa ob la lb lo lo' m : Nat} {f g : Nat → Nat} (ha : S a = kI ma) (hb : S b = kI mb) (hma : ma < 2 ^ 20) (hmb : mb < 2 ^ 20) (hT : kTx I a oa f la) (hU : kTx I b ob g lb) (h1 : oa + la ≤ ma) (h2 : ob + lb ≤ mb) (h3 : lo + m ≤ la) (h4 : lo' + m ≤ lb) :
    kv_P y_Md_isSame d B [.ref a, .int (nI (oa + lo)), .ref b, .int (nI (ob + lo')), .int (nI m)] n S I (kQi (kB (kSame f lo g lo' m)) I) := by
  refine kv_P.of (by decide +kernel) rfl (Nat.le_of_ble_eq_true rfl) ?_
  refine bl_Md_isSame_0 ?_
  have loop : ∀ (j i : Nat), i + j = m → kSame f lo g lo' i → kv_V y_Md_isSame d B (kv_PQ n S (kQi (kB (kSame f lo g lo' m)) I)) 0 0 n S I 3 [(0, .ref a), (1, .int (nI (oa + lo))), (2, .ref b), (3, .int (nI (ob + lo'))), (4, .int (nI m)), (5, .int (nI i))] [] := by
    intro j
    induction j with
    | zero =>
      intro i hi hs
      refine bl_Md_isSame_3 (fun _ => ?_) (fun h => absurd (nI_le (by omega) (by omega)) h)
      refine bl_Md_isSame_33 (kQi_end (kB_t ?_).symm)
      rw [← show i = m by omega]
      exact hs
    | succ j ih =>
      intro i hi hs
      have t := hT (lo + i) (by omega)
      have u := hU (lo' + i) (by omega)
      refine bl_Md_isSame_3 (fun h => absurd h (nI_ge (by omega) (by omega))) (fun _ => ?_)
      refine bl_Md_isSame_10 ha (j2 := oa + (lo + i)) ⟨by rw [nI_add, Nat.add_assoc], by omega, by omega⟩ hb (j4 := ob + (lo' + i)) ⟨by rw [nI_add, Nat.add_assoc], by omega, by omega⟩ (fun h => ?_) (fun h => ?_)
      · rw [t.1, u.1, nI_eq (by omega) (by omega)] at h
        refine bl_Md_isSame_27 ?_
        rw [nI_1]
        refine ih (i + 1) (by omega) (fun z hz => ?_)
        by_cases hzi : z = i
        · subst hzi; exact h
        · exact hs z (by omega)
      · rw [t.1, u.1, nI_eq (by omega) (by omega)] at h
        exact bl_Md_isSame_25 (kQi_end (kB_f (fun q => h (q i (by omega)))).symm)
  exact loop m 0 (by omega) (fun i hi => absurd hi (by omega))
theorem c_Row_isLike {d : Nat} {B : kv_B} {n : Nat} {S : kv_SM} {I : kv_IM} (hd : 1 ≤ d) {r nb nk c k r' nb' nk' c' k' : Nat} {f p g q : Nat → Nat} (hS : RowS S r nb nk) (hn : nk < 2 ^ 20) (hb : nb < 2 ^ 20) (hR : kRow I r nb nk f p c) (hk : k < c) (hS' : RowS S r' nb' nk') (hn' : nk' < 2 ^ 20) (hb' : nb' < 2 ^ 20) (hR' : kRow I r' nb' nk' g q c') (hk' : k' < c') (e1 : I (r + 3) k = kFnv f (p k) (p (k + 1) - p k)) (e2 : I (r' + 3) k' = kFnv g (q k') (q (k' + 1) - q k')) :
    kv_P y_Row_isLike d B [.ref r, .int (nI k), .ref r', .int (nI k')] n S I (kQi (kB (kLike f p k g q k')) I) := by
  obtain ⟨s0, s1, s2, s3, -⟩ := id hS
  obtain ⟨s0', s1', s2', s3', -⟩ := id hS'
  obtain ⟨r0, r1, r2, r3, r4, r5⟩ := id hR
  obtain ⟨r0', r1', r2', r3', r4', r5'⟩ := id hR'
  have m1 := r3 k hk
  have m2 := kMon r3 (i := k + 1) (k := c) (by omega) (Nat.le_refl _)
  have m1' := r3' k' hk'
  have m2' := kMon r3' (i := k' + 1) (k := c') (by omega) (Nat.le_refl _)
  have ek := r2 k (by omega)
  have ek1 := r2 (k + 1) (by omega)
  have ek' := r2' k' (by omega)
  have ek1' := r2' (k' + 1) (by omega)
  refine kv_P.of (by decide +kernel) rfl (Nat.le_of_ble_eq_true rfl) ?_
  refine bl_Row_isLike_0 s0 rfl s3 ⟨rfl, by omega, by omega⟩ s0' rfl s3' ⟨rfl, by omega, by omega⟩ (fun h => ?_) (fun h => ?_)
  · refine bl_Row_isLike_28 (kQi_end (kB_f (fun q => h ?_)).symm)
    rw [e1, e2]
    exact kLike_fnv q
  · refine bp_Row_isLike_15 (dc := 0) s0 (c_Row_bytesOf hS hn (by omega)) (by omega) (fun v J hv => ?_)
    obtain ⟨rfl, rfl⟩ := hv
    refine bp_Row_isLike_20 (dc := 0) s0' (c_Row_bytesOf hS' hn' (by omega)) (by omega) (fun v J hv => ?_)
    obtain ⟨rfl, rfl⟩ := hv
    rw [ek, ek1, ek', ek1', pk_sub (by omega), pk_sub (by omega)]
    refine bl_Row_isLike_25 (fun hl => ?_) (fun hl => ?_)
    · rw [nI_eq (by omega) (by omega)] at hl
      refine bp_Row_isLike_30 (dc := 0) s0 rfl s2 ⟨rfl, by omega, by omega⟩ s0' rfl s2' ⟨rfl, by omega, by omega⟩ (c_Row_bytesOf hS hn (by omega)) (by omega) (fun v J hv => ?_)
      obtain ⟨rfl, rfl⟩ := hv
      refine bl_Row_isLike_51 ?_
      rw [ek, ek1, ek', pk_sub (by omega)]
      have loop : ∀ (j i : Nat), i + j = p (k + 1) - p k → kSame f (p k) g (q k') i → kv_V y_Row_isLike d B (kv_PQ n S (kQi (kB (kLike f p k g q k')) I)) 0 0 n S I 56 [(0, .ref r), (1, .int (nI k)), (2, .ref r'), (3, .int (nI k')), (4, .int (nI (p k))), (5, .int (nI (q k'))), (6, .int (nI (p (k + 1) - p k))), (7, .int (nI i))] [] := by
        intro j
        induction j with
        | zero =>
          intro i hi hs
          refine bl_Row_isLike_56 (fun _ => ?_) (fun h => absurd (nI_le (by omega) (by omega)) h)
          refine bl_Row_isLike_94 (kQi_end (kB_t ⟨hl, ?_⟩).symm)
          rw [← show i = p (k + 1) - p k by omega]
          exact hs
        | succ j ih =>
          intro i hi hs
          have t := r5 (p k + i) (by omega)
          have u := r5' (q k' + i) (by omega)
          rw [Nat.zero_add] at t u
          refine bl_Row_isLike_56 (fun h => absurd h (nI_ge (by omega) (by omega))) (fun _ => ?_)
          refine bl_Row_isLike_63 s0 rfl s1 (j4 := p k + i) ⟨nI_add _ _, by omega, by omega⟩ s0' rfl s1' (j8 := q k' + i) ⟨nI_add _ _, by omega, by omega⟩ (fun h => ?_) (fun h => ?_)
          · rw [t.1, u.1, nI_eq (by omega) (by omega)] at h
            refine bl_Row_isLike_88 ?_
            rw [nI_1]
            refine ih (i + 1) (by omega) (fun z hz => ?_)
            by_cases hzi : z = i
            · subst hzi; exact h
            · exact hs z (by omega)
          · rw [t.1, u.1, nI_eq (by omega) (by omega)] at h
            exact bl_Row_isLike_86 (kQi_end (kB_f (fun q => h (q.2 i (by omega)))).symm)
      exact loop _ 0 (Nat.zero_add _) (fun i hi => absurd hi (by omega))
    · rw [nI_eq (by omega) (by omega)] at hl
      exact bl_Row_isLike_28 (kQi_end (kB_f (fun q => hl q.1)).symm)
