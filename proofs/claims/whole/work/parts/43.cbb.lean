theorem c_Cb_cutRow {d : Nat} {B : kv_B} {n : Nat} {S : kv_SM} {I : kv_IM} (hd : 4 ≤ d) {o k : Nat} {ru : Nat → Nat} {tab : Nat → Int32} {len : Nat → Nat} {tb : Nat → Nat → Nat} (hS : CbS S o) (hA : CbA I o ru tab len tb) (hok : RuOK ru) (hk : k < 4) :
    kv_P y_Cb_cutRow d B [.ref o, .int (nI k)] n S I (fun v J => v = some (.ref (o + 4 + 7 * k + 1)) ∧ kFr (o + 4 + 7 * k) (o + 4 + 7 * k + 6) I J ∧ CbA J o ru tab len tb ∧ kRow J (o + 4 + 7 * k + 1) 1500 1500 (tb k) (kPos ru tab (tb k) (len k)) (kCnt ru tab (tb k) (len k))) := by
  obtain ⟨s0, s1, s2, s3, s4⟩ := id hS
  obtain ⟨a1, a2, a3⟩ := id hA
  have sk := s3 k hk
  refine kv_P.of (by decide +kernel) rfl (Nat.le_of_ble_eq_true rfl) ?_
  refine bp_Cb_cutRow_0 (dc := 3) s0 rfl s2 ⟨rfl, hk, by omega⟩ (txtA_k hk) rfl sk.1 (c_cut (by omega) sk s1 (by omega) (a3 k hk) a1 a2 hok) (by omega) (fun v J hv => ?_)
  obtain ⟨rfl, hF, hT, hc, hR⟩ := hv
  exact bl_Cb_cutRow_13 s0 rfl s2 ⟨rfl, hk, by omega⟩ (txtA_k hk) sk.1 rfl ⟨rfl, rfl, rfl, hF, CbA_same hA hk hF hT, hR⟩
theorem c_Cb_indexedRow {d : Nat} {B : kv_B} {n : Nat} {S : kv_SM} {I : kv_IM} (hd : 5 ≤ d) {o k : Nat} {ru : Nat → Nat} {tab : Nat → Int32} {len : Nat → Nat} {tb : Nat → Nat → Nat} (hS : CbS S o) (hA : CbA I o ru tab len tb) (hok : RuOK ru) (hk : k < 4) :
    kv_P y_Cb_indexedRow d B [.ref o, .int (nI k)] n S I (fun v J => v = some (.ref (o + 4 + 7 * k + 1)) ∧ kFr (o + 4 + 7 * k) (o + 4 + 7 * k + 6) I J ∧ CbA J o ru tab len tb ∧ kRow J (o + 4 + 7 * k + 1) 1500 1500 (tb k) (kPos ru tab (tb k) (len k)) (kCnt ru tab (tb k) (len k)) ∧ ∃ L, kIx J (o + 4 + 7 * k + 1) (tb k) (kPos ru tab (tb k) (len k)) (kCnt ru tab (tb k) (len k)) L ∧ kCov (tb k) (kPos ru tab (tb k) (len k)) (kCnt ru tab (tb k) (len k)) L) := by
  obtain ⟨s0, s1, s2, s3, s4⟩ := id hS
  obtain ⟨a1, a2, a3⟩ := id hA
  have sk := s3 k hk
  refine kv_P.of (by decide +kernel) rfl (Nat.le_of_ble_eq_true rfl) ?_
  refine bp_Cb_indexedRow_0 (dc := 4) s0 rfl s2 ⟨rfl, hk, by omega⟩ (txtA_k hk) rfl sk.1 (c_idx (by omega) sk s1 (by omega) (a3 k hk) a1 a2 hok) (by omega) (fun v J hv => ?_)
  obtain ⟨rfl, hF, hT, hR, hX⟩ := hv
  exact bl_Cb_indexedRow_13 s0 rfl s2 ⟨rfl, hk, by omega⟩ (txtA_k hk) sk.1 rfl ⟨rfl, rfl, rfl, hF, CbA_same hA hk hF hT, hR, hX⟩
def sBlocks (ru : Nat → Nat) (tab : Nat → Int32) (len : Nat → Nat) (tb : Nat → Nat → Nat) (t : Int32) : Int32 := if kT t then nI (kCnt ru tab (tb (tN t)) (len (tN t))) else -1
abbrev kHB (ru : Nat → Nat) (tab : Nat → Int32) (len : Nat → Nat) (tb : Nat → Nat → Nat) (t k : Int32) : Prop := kT t ∧ (0 ≤ k.toInt ∧ k.toInt < kCnt ru tab (tb (tN t)) (len (tN t)))
def sBlock (ru : Nat → Nat) (tab : Nat → Int32) (len : Nat → Nat) (tb : Nat → Nat → Nat) (t k w : Int32) : Int32 :=
  if kHB ru tab len tb t k ∧ (0 ≤ w.toInt ∧ w.toInt ≤ 1) then (if w = 0 then nI (kPos ru tab (tb (tN t)) (len (tN t)) (tN k)) else nI (kPos ru tab (tb (tN t)) (len (tN t)) (tN k + 1) - kPos ru tab (tb (tN t)) (len (tN t)) (tN k))) else -1
def kDig (f p : Nat → Nat) (k : Nat) (man : Int32) : Int64 := if man = 0 then (kFnv f (p k) (p (k + 1) - p k)).toInt64 &&& 4294967295 else 65536 * (kDb f (p k) (p (k + 1) - p k)).toInt64 + (kDa f (p k) (p (k + 1) - p k)).toInt64
def sDigest (ru : Nat → Nat) (tab : Nat → Int32) (len : Nat → Nat) (tb : Nat → Nat → Nat) (t k w : Int32) : Int64 :=
  if kHB ru tab len tb t k ∧ (0 ≤ w.toInt ∧ w.toInt ≤ 1) then kDig (tb (tN t)) (kPos ru tab (tb (tN t)) (len (tN t))) (tN k) w else -1
def kHs (m : Nat) (tab : Nat → Int32) (f p : Nat → Nat) (c i : Nat) : Int64 := (kH m tab f (p (kBk p c i c 0)) (i + 1 - p (kBk p c i c 0))).toInt64 &&& 4294967295
def sHash (ru : Nat → Nat) (tab : Nat → Int32) (len : Nat → Nat) (tb : Nat → Nat → Nat) (t i : Int32) : Int64 :=
  if kT t ∧ (0 ≤ i.toInt ∧ i.toInt < len (tN t)) then kHs (ru 0) tab (tb (tN t)) (kPos ru tab (tb (tN t)) (len (tN t))) (kCnt ru tab (tb (tN t)) (len (tN t))) (tN i) else -1
def kAlk (f p : Nat → Nat) (c : Nat) (g q : Nat → Nat) (c' : Nat) (w : Int32) : Int32 :=
  if w = 0 then nI (kSm (fun k => if kHas f p k g q c' then 1 else 0) c) else if w = 1 then nI (kSm (fun k => if kHas f p k g q c' then p (k + 1) - p k else 0) c) else if w = 2 then nI (kFst (fun k => decide (kLike f p k g q k)) (kMin c c') 0) else nI (kFst (fun k => decide (kLike f p (c - 1 - k) g q (c' - 1 - k))) (kMin c c') 0)
def sAlike (ru : Nat → Nat) (tab : Nat → Int32) (len : Nat → Nat) (tb : Nat → Nat → Nat) (t s w : Int32) : Int32 :=
  if kT t ∧ kT s ∧ (0 ≤ w.toInt ∧ w.toInt ≤ 3) then kAlk (tb (tN t)) (kPos ru tab (tb (tN t)) (len (tN t))) (kCnt ru tab (tb (tN t)) (len (tN t))) (tb (tN s)) (kPos ru tab (tb (tN s)) (len (tN s))) (kCnt ru tab (tb (tN s)) (len (tN s))) w else -1
abbrev CbR (I : kv_IM) (o : Nat) (ru : Nat → Nat) (tab : Nat → Int32) (len : Nat → Nat) (tb : Nat → Nat → Nat) (r : Value) : Option Value → kv_IM → Prop := fun v J => v = some r ∧ kFr o (o + 31) I J ∧ CbA J o ru tab len tb
theorem kFr_tr {lo hi : Nat} {I J K : kv_IM} (h1 : kFr lo hi I J) (h2 : kFr lo hi J K) : kFr lo hi I K := fun a ha => (h2 a ha).trans (h1 a ha)
theorem kFr_mono {lo hi lo' hi' : Nat} {I J : kv_IM} (h : kFr lo hi I J) (h1 : lo' ≤ lo) (h2 : hi ≤ hi') : kFr lo' hi' I J := fun a ha => h a (by omega)
theorem c_Cb_blocks {d : Nat} {B : kv_B} {n : Nat} {S : kv_SM} {I : kv_IM} (hd : 5 ≤ d) {o : Nat} {ru : Nat → Nat} {tab : Nat → Int32} {len : Nat → Nat} {tb : Nat → Nat → Nat} (t : Int32) (hS : CbS S o) (hA : CbA I o ru tab len tb) (hok : RuOK ru) :
    kv_P y_Cb_blocks d B [.ref o, .int t] n S I (CbR I o ru tab len tb (.int (sBlocks ru tab len tb t))) := by
  obtain ⟨s0, s1, s2, s3, s4⟩ := id hS
  refine kv_P.of (by decide +kernel) rfl (Nat.le_of_ble_eq_true rfl) ?_
  refine bp_Cb_blocks_0 (dc := 0) (c_Cb_isText t) (by omega) (fun v J hv => ?_)
  obtain ⟨rfl, rfl⟩ := hv
  refine bl_Cb_blocks_4 (fun h => ?_) (fun h => ?_)
  · have hv := kB_e0.mp h
    refine bl_Cb_blocks_18 (bl_Cb_blocks_19 ⟨rfl, rfl, ?_, fun _ _ => rfl, hA⟩)
    unfold sBlocks
    rw [if_neg hv]
  · have ht : kT t := Classical.not_not.mp (fun q => h (kB_e0.mpr q))
    obtain ⟨hk, et⟩ := kT_of ht
    refine bp_Cb_blocks_7 (dc := 4) s0 (by rw [et]; exact c_Cb_cutRow (by omega) hS hA hok hk) (by omega) (fun v J hv => ?_)
    obtain ⟨rfl, hF, hA1, hR⟩ := hv
    refine bl_Cb_blocks_12 (s3 _ hk).2.1 (bl_Cb_blocks_19 ⟨rfl, rfl, ?_, kFr_mono hF (by omega) (by omega), hA1⟩)
    unfold sBlocks
    rw [if_pos ht, hR.1]
theorem c_Cb_hasBlock {d : Nat} {B : kv_B} {n : Nat} {S : kv_SM} {I : kv_IM} (hd : 5 ≤ d) {o : Nat} {ru : Nat → Nat} {tab : Nat → Int32} {len : Nat → Nat} {tb : Nat → Nat → Nat} (t k : Int32) (hS : CbS S o) (hA : CbA I o ru tab len tb) (hok : RuOK ru) :
    kv_P y_Cb_hasBlock d B [.ref o, .int t, .int k] n S I (CbR I o ru tab len tb (.int (kB (kHB ru tab len tb t k)))) := by
  obtain ⟨s0, s1, s2, s3, s4⟩ := id hS
  refine kv_P.of (by decide +kernel) rfl (Nat.le_of_ble_eq_true rfl) ?_
  refine bp_Cb_hasBlock_0 (dc := 0) (c_Cb_isText t) (by omega) (fun v J hv => ?_)
  obtain ⟨rfl, rfl⟩ := hv
  refine bl_Cb_hasBlock_4 (fun h => ?_) (fun h => ?_)
  · have hv := kB_e0.mp h
    exact bl_Cb_hasBlock_27 (bl_Cb_hasBlock_28 rfl ⟨rfl, rfl, by rw [kB_f (fun q => hv q.1)], fun _ _ => rfl, hA⟩)
  have ht : kT t := Classical.not_not.mp (fun q => h (kB_e0.mpr q))
  obtain ⟨hk, et⟩ := kT_of ht
  have hl := (hA.2.2 _ hk).1
  refine bl_Cb_hasBlock_7 (fun h => ?_) (fun h => ?_)
  · have h := i_lt.mp h
    simp only [Int32.toInt_zero] at h
    exact bl_Cb_hasBlock_27 (bl_Cb_hasBlock_28 rfl ⟨rfl, rfl, by rw [kB_f (fun q => by have := q.2.1; omega)], fun _ _ => rfl, hA⟩)
  have hi := i_nlt.mp h
  simp only [Int32.toInt_zero] at hi
  obtain ⟨i1, i2, i3⟩ := tN_of hi
  refine bp_Cb_hasBlock_11 (dc := 4) s0 (by rw [et]; exact c_Cb_cutRow (by omega) hS hA hok hk) (by omega) (fun v J hv => ?_)
  obtain ⟨rfl, hF, hA1, hR⟩ := hv
  have hcl := kCnt_le (ru := ru) (tab := tab) (f := tb (tN t)) (len := len (tN t))
  refine bl_Cb_hasBlock_17 (s3 _ hk).2.1 (fun h => ?_) (fun h => ?_)
  · rw [hR.1, i1, nI_leI (by omega) (by omega)] at h
    exact bl_Cb_hasBlock_27 (bl_Cb_hasBlock_28 rfl ⟨rfl, rfl, by rw [kB_f (fun q => by have := q.2.2; omega)], kFr_mono hF (by omega) (by omega), hA1⟩)
  · rw [hR.1, i1, nI_leI (by omega) (by omega)] at h
    exact bl_Cb_hasBlock_23 (bl_Cb_hasBlock_28 rfl ⟨rfl, rfl, by rw [kB_t ⟨ht, by omega, by omega⟩], kFr_mono hF (by omega) (by omega), hA1⟩)
theorem c_Cb_block {d : Nat} {B : kv_B} {n : Nat} {S : kv_SM} {I : kv_IM} (hd : 6 ≤ d) {o : Nat} {ru : Nat → Nat} {tab : Nat → Int32} {len : Nat → Nat} {tb : Nat → Nat → Nat} (t k w : Int32) (hS : CbS S o) (hA : CbA I o ru tab len tb) (hok : RuOK ru) :
    kv_P y_Cb_block d B [.ref o, .int t, .int k, .int w] n S I (CbR I o ru tab len tb (.int (sBlock ru tab len tb t k w))) := by
  obtain ⟨s0, s1, s2, s3, s4⟩ := id hS
  refine kv_P.of (by decide +kernel) rfl (Nat.le_of_ble_eq_true rfl) ?_
  refine bp_Cb_block_0 (dc := 5) s0 (c_Cb_hasBlock (by omega) t k hS hA hok) (by omega) (fun v J hv => ?_)
  obtain ⟨rfl, hF, hA1⟩ := hv
  have bad : ¬ (kHB ru tab len tb t k ∧ (0 ≤ w.toInt ∧ w.toInt ≤ 1)) → kv_V y_Cb_block d B (kv_PQ n S (CbR I o ru tab len tb (.int (sBlock ru tab len tb t k w)))) 0 0 n S J 18 [(0, .ref o), (1, .int t), (2, .int k), (3, .int w)] [] := by
    intro hn
    refine bl_Cb_block_18 ⟨rfl, rfl, ?_, hF, hA1⟩
    unfold sBlock
    rw [if_neg hn]
  refine bl_Cb_block_6 (fun h => ?_) (fun h => ?_)
  · have hv := kB_e0.mp h
    exact bad (fun q => hv q.1)
  have hb := Classical.not_not.mp (fun q => h (kB_e0.mpr q))
  obtain ⟨ht, hk0, hk1⟩ := id hb
  obtain ⟨hk, et⟩ := kT_of ht
  obtain ⟨i1, i2, i3⟩ := tN_of hk0
  refine bl_Cb_block_9 (fun h => ?_) (fun h => ?_)
  · have h := i_lt.mp h
    simp only [Int32.toInt_zero] at h
    exact bad (fun q => by have := q.2.1; omega)
  have hw := i_nlt.mp h
  simp only [Int32.toInt_zero] at hw
  have t1 : (1 : Int32).toInt = 1 := by decide
  refine bl_Cb_block_13 (fun h => ?_) (fun h => ?_)
  rotate_left
  · have h := i_nle.mp h
    exact bad (fun q => by have := q.2.2; omega)
  have hw1 := i_le.mp h
  rw [t1] at hw1
  refine bp_Cb_block_20 (dc := 4) s0 (by rw [et]; exact c_Cb_cutRow (by omega) hS hA1 hok hk) (by omega) (fun v K hv => ?_)
  obtain ⟨rfl, hF2, hA2, hR⟩ := hv
  have hcl := hR.2.1
  have hlt : tN k < kCnt ru tab (tb (tN t)) (len (tN t)) := by omega
  refine bl_Cb_block_25 (fun h => ?_) (fun h => ?_)
  · refine bp_Cb_block_41 (dc := 0) (s3 _ hk).2.1 (by rw [i1]; exact c_Row_bytesOf (s3 _ hk).2 (by omega) (by omega)) (by omega) (fun v M hv => ?_)
    obtain ⟨rfl, rfl⟩ := hv
    refine bl_Cb_block_47 ⟨rfl, rfl, ?_, kFr_tr hF (kFr_mono hF2 (by omega) (by omega)), hA2⟩
    unfold sBlock
    have := hR.2.2.2.1 (tN k) hlt
    rw [if_pos ⟨hb, hw, hw1⟩, if_neg h, hR.2.2.1 _ (by omega), hR.2.2.1 _ (by omega), pk_sub (by omega)]
  · refine bl_Cb_block_31 (s3 _ hk).2.1 rfl (s3 _ hk).2.2.2.1 (j4 := tN k) ⟨i1, by omega, by omega⟩ (bl_Cb_block_47 ⟨rfl, rfl, ?_, kFr_tr hF (kFr_mono hF2 (by omega) (by omega)), hA2⟩)
    unfold sBlock
    rw [if_pos ⟨hb, hw, hw1⟩, if_pos h, hR.2.2.1 _ (by omega)]
theorem c_Cb_digest {d : Nat} {B : kv_B} {n : Nat} {S : kv_SM} {I : kv_IM} (hd : 6 ≤ d) {o : Nat} {ru : Nat → Nat} {tab : Nat → Int32} {len : Nat → Nat} {tb : Nat → Nat → Nat} (t k w : Int32) (hS : CbS S o) (hA : CbA I o ru tab len tb) (hok : RuOK ru) :
    kv_P y_Cb_digest d B [.ref o, .int t, .int k, .int w] n S I (CbR I o ru tab len tb (.long (sDigest ru tab len tb t k w))) := by
  obtain ⟨s0, s1, s2, s3, s4⟩ := id hS
  refine kv_P.of (by decide +kernel) rfl (Nat.le_of_ble_eq_true rfl) ?_
  refine bp_Cb_digest_0 (dc := 5) s0 (c_Cb_hasBlock (by omega) t k hS hA hok) (by omega) (fun v J hv => ?_)
  obtain ⟨rfl, hF, hA1⟩ := hv
  have bad : ¬ (kHB ru tab len tb t k ∧ (0 ≤ w.toInt ∧ w.toInt ≤ 1)) → kv_V y_Cb_digest d B (kv_PQ n S (CbR I o ru tab len tb (.long (sDigest ru tab len tb t k w)))) 0 0 n S J 18 [(0, .ref o), (1, .int t), (2, .int k), (3, .int w)] [] := by
    intro hn
    refine bl_Cb_digest_18 ⟨rfl, rfl, ?_, hF, hA1⟩
    unfold sDigest
    rw [if_neg hn]
  refine bl_Cb_digest_6 (fun h => ?_) (fun h => ?_)
  · have hv := kB_e0.mp h
    exact bad (fun q => hv q.1)
  have hb := Classical.not_not.mp (fun q => h (kB_e0.mpr q))
  obtain ⟨ht, hk0, hk1⟩ := id hb
  obtain ⟨hk, et⟩ := kT_of ht
  obtain ⟨i1, i2, i3⟩ := tN_of hk0
  refine bl_Cb_digest_9 (fun h => ?_) (fun h => ?_)
  · have h := i_lt.mp h
    simp only [Int32.toInt_zero] at h
    exact bad (fun q => by have := q.2.1; omega)
  have hw := i_nlt.mp h
  simp only [Int32.toInt_zero] at hw
  have t1 : (1 : Int32).toInt = 1 := by decide
  refine bl_Cb_digest_13 (fun h => ?_) (fun h => ?_)
  rotate_left
  · have h := i_nle.mp h
    exact bad (fun q => by have := q.2.2; omega)
  have hw1 := i_le.mp h
  rw [t1] at hw1
  refine bp_Cb_digest_22 (dc := 4) s0 (by rw [et]; exact c_Cb_cutRow (by omega) hS hA1 hok hk) (by omega) (fun v K hv => ?_)
  obtain ⟨rfl, hF2, hA2, hR⟩ := hv
  have hcl := hR.2.1
  have hlt : tN k < kCnt ru tab (tb (tN t)) (len (tN t)) := by omega
  have hFF := kFr_tr hF (kFr_mono hF2 (lo' := o) (hi' := o + 31) (by omega) (by omega))
  refine bl_Cb_digest_27 (fun h => ?_) (fun h => ?_)
  · refine bp_Cb_digest_45 (dc := 0) (s3 _ hk).2.1 (by rw [i1]; exact c_Row_doubleSum (s3 _ hk).2 (by omega) (by omega) hR hlt) (by omega) (fun v M hv => ?_)
    obtain ⟨rfl, rfl⟩ := hv
    refine bl_Cb_digest_51 ⟨rfl, rfl, ?_, hFF, hA2⟩
    unfold sDigest kDig
    rw [if_pos ⟨hb, hw, hw1⟩, if_neg h]
  · refine bp_Cb_digest_33 (dc := 0) (s3 _ hk).2.1 (by rw [i1]; exact c_Row_mixedSum (s3 _ hk).2 (by omega) (by omega) hR hlt) (by omega) (fun v M hv => ?_)
    obtain ⟨rfl, rfl⟩ := hv
    refine bp_Cb_digest_39 (dc := 0) (c_Cb_unsigned _) (by omega) (fun v M hv => ?_)
    obtain ⟨rfl, rfl⟩ := hv
    refine bl_Cb_digest_42 (bl_Cb_digest_51 ⟨rfl, rfl, ?_, hFF, hA2⟩)
    unfold sDigest kDig
    rw [if_pos ⟨hb, hw, hw1⟩, if_pos h]
theorem kH_tab {m : Nat} {tab tab' : Nat → Int32} {f : Nat → Nat} {st len : Nat} (ht : ∀ i, i < 256 → tab i = tab' i) (hf : ∀ i, i < len → f i < 256) : ∀ {k : Nat}, st + k ≤ len → kH m tab f st k = kH m tab' f st k
  | 0, _ => rfl
  | k + 1, h => by
    rw [kH, kH, kH_tab ht hf (k := k) (by omega), kNx_tab ht hf (by omega) h]
theorem c_Cb_hash {d : Nat} {B : kv_B} {n : Nat} {S : kv_SM} {I : kv_IM} (hd : 6 ≤ d) {o : Nat} {ru : Nat → Nat} {tab : Nat → Int32} {len : Nat → Nat} {tb : Nat → Nat → Nat} (t i : Int32) (hS : CbS S o) (hA : CbA I o ru tab len tb) (hok : RuOK ru) :
    kv_P y_Cb_hash d B [.ref o, .int t, .int i] n S I (CbR I o ru tab len tb (.long (sHash ru tab len tb t i))) := by
  obtain ⟨s0, s1, s2, s3, s4⟩ := id hS
  refine kv_P.of (by decide +kernel) rfl (Nat.le_of_ble_eq_true rfl) ?_
  refine bp_Cb_hash_0 (dc := 1) s0 (c_Cb_hasByte (by omega) t i hS hA) (by omega) (fun v J hv => ?_)
  obtain ⟨rfl, rfl⟩ := hv
  refine bl_Cb_hash_6 (fun h => ?_) (fun h => ?_)
  · have hv := Classical.not_not.mp (fun q => h (kB_e0.mpr q))
    obtain ⟨ht, hi, hi2⟩ := id hv
    obtain ⟨hk, et⟩ := kT_of ht
    obtain ⟨i1, i2, i3⟩ := tN_of hi
    refine bp_Cb_hash_13 (dc := 4) s0 (by rw [et]; exact c_Cb_cutRow (by omega) hS hA hok hk) (by omega) (fun v K hv => ?_)
    obtain ⟨rfl, hF, hA1, hR⟩ := hv
    obtain ⟨a1, a2, a3⟩ := id hA1
    have hT := a3 _ hk
    have hl := hT.1
    have hc0 : 0 < kCnt ru tab (tb (tN t)) (len (tN t)) := by
      apply Nat.pos_of_ne_zero
      intro q
      have := kCnt_end (ru := ru) (tab := tab) (f := tb (tN t)) (len := len (tN t))
      rw [q, kPos] at this
      omega
    have hst : kPos ru tab (tb (tN t)) (len (tN t)) (kBk (kPos ru tab (tb (tN t)) (len (tN t))) (kCnt ru tab (tb (tN t)) (len (tN t))) (tN i) (kCnt ru tab (tb (tN t)) (len (tN t))) 0) ≤ tN i := kBk_le (by rw [kPos]; omega)
    refine bp_Cb_hash_18 (dc := 0) s0 rfl (s3 _ hk).2.1 rfl (by rw [i1]; exact c_Row_startOfBlockWith (s3 _ hk).2 (by omega) (by omega) hR hc0 (by omega)) (by omega) (fun v M hv => ?_)
    obtain ⟨rfl, rfl⟩ := hv
    refine bp_Cb_hash_32 (dc := 2) s1.1 (by
      have hn := c_Rul_numberAt (d := 2) (B := B) (n := n) (S := S) (i := tN i) (by omega) s1 (s3 _ hk).2.2.1 (by omega) hT.2.2.1 hl (a1 0 (by omega)) hok.1 hst (by omega)
      rw [← i1] at hn
      exact hn) (by omega) (fun v M hv => ?_)
    obtain ⟨rfl, rfl⟩ := hv
    refine bp_Cb_hash_36 (dc := 0) (c_Cb_unsigned _) (by omega) (fun v M hv => ?_)
    obtain ⟨rfl, rfl⟩ := hv
    refine bl_Cb_hash_39 ⟨rfl, rfl, ?_, kFr_mono hF (by omega) (by omega), hA1⟩
    unfold sHash kHs
    rw [if_pos hv]
    generalize kPos ru tab (tb (tN t)) (len (tN t)) (kBk (kPos ru tab (tb (tN t)) (len (tN t))) (kCnt ru tab (tb (tN t)) (len (tN t))) (tN i) (kCnt ru tab (tb (tN t)) (len (tN t))) 0) = st at hst ⊢
    rw [kH_tab (len := len (tN t)) (st := st) (k := tN i + 1 - st) a2 (fun z hz => (hT.2.2.1 z hz).2) (by omega)]
  · have hv := kB_e0.mp h
    refine bl_Cb_hash_9 ⟨rfl, rfl, ?_, fun _ _ => rfl, hA⟩
    unfold sHash
    rw [if_neg hv]
theorem c_Cb_alike {d : Nat} {B : kv_B} {n : Nat} {S : kv_SM} {I : kv_IM} (hd : 6 ≤ d) {o : Nat} {ru : Nat → Nat} {tab : Nat → Int32} {len : Nat → Nat} {tb : Nat → Nat → Nat} (t s w : Int32) (hS : CbS S o) (hA : CbA I o ru tab len tb) (hok : RuOK ru) :
    kv_P y_Cb_alike d B [.ref o, .int t, .int s, .int w] n S I (CbR I o ru tab len tb (.int (sAlike ru tab len tb t s w))) := by
  obtain ⟨s0, s1, s2, s3, s4⟩ := id hS
  refine kv_P.of (by decide +kernel) rfl (Nat.le_of_ble_eq_true rfl) ?_
  have bad : ¬ (kT t ∧ kT s ∧ (0 ≤ w.toInt ∧ w.toInt ≤ 3)) → kv_V y_Cb_alike d B (kv_PQ n S (CbR I o ru tab len tb (.int (sAlike ru tab len tb t s w)))) 0 0 n S I 23 [(0, .ref o), (1, .int t), (2, .int s), (3, .int w)] [] := by
    intro hn
    refine bl_Cb_alike_23 ⟨rfl, rfl, ?_, fun _ _ => rfl, hA⟩
    unfold sAlike
    rw [if_neg hn]
  refine bp_Cb_alike_0 (dc := 0) (c_Cb_isText t) (by omega) (fun v J hv => ?_)
  obtain ⟨rfl, rfl⟩ := hv
  refine bl_Cb_alike_4 (fun h => ?_) (fun h => ?_)
  · have hv := kB_e0.mp h
    exact bad (fun q => hv q.1)
  have ht : kT t := Classical.not_not.mp (fun q => h (kB_e0.mpr q))
  obtain ⟨hk, et⟩ := kT_of ht
  refine bp_Cb_alike_7 (dc := 0) (c_Cb_isText s) (by omega) (fun v J hv => ?_)
  obtain ⟨rfl, rfl⟩ := hv
  refine bl_Cb_alike_11 (fun h => ?_) (fun h => ?_)
  · have hv := kB_e0.mp h
    exact bad (fun q => hv q.2.1)
  have hs : kT s := Classical.not_not.mp (fun q => h (kB_e0.mpr q))
  obtain ⟨hk', es⟩ := kT_of hs
  refine bl_Cb_alike_14 (fun h => ?_) (fun h => ?_)
  · have h := i_lt.mp h
    simp only [Int32.toInt_zero] at h
    exact bad (fun q => by have := q.2.2.1; omega)
  have hw := i_nlt.mp h
  simp only [Int32.toInt_zero] at hw
  have t3 : (3 : Int32).toInt = 3 := by decide
  refine bl_Cb_alike_18 (fun h => ?_) (fun h => ?_)
  rotate_left
  · have h := i_nle.mp h
    exact bad (fun q => by have := q.2.2.2; omega)
  have hw1 := i_le.mp h
  rw [t3] at hw1
  refine bp_Cb_alike_25 (dc := 5) s0 (by rw [et]; exact c_Cb_indexedRow (by omega) hS hA hok hk) (by omega) (fun v J hv => ?_)
  obtain ⟨rfl, hF1, hA1, hR1, L1, hX1, hC1⟩ := hv
  refine bp_Cb_alike_30 (dc := 5) s0 (by rw [es]; exact c_Cb_indexedRow (by omega) hS hA1 hok hk') (by omega) (fun v K hv => ?_)
  obtain ⟨rfl, hF2, hA2, hR2, L2, hX2, hC2⟩ := hv
  have hFF : kFr o (o + 31) I K := kFr_tr (kFr_mono hF1 (by omega) (by omega)) (kFr_mono hF2 (by omega) (by omega))
  have hR1' : kRow K (o + 4 + 7 * tN t + 1) 1500 1500 (tb (tN t)) (kPos ru tab (tb (tN t)) (len (tN t))) (kCnt ru tab (tb (tN t)) (len (tN t))) := by
    by_cases e : tN t = tN s
    · rw [e]; exact hR2
    · exact kRow_of hR1 (hF2 _ (by omega)) (hF2 _ (by omega)) (hF2 _ (by omega))
  have hE1 : ∀ k, k < kCnt ru tab (tb (tN t)) (len (tN t)) → K (o + 4 + 7 * tN t + 1 + 3) k = kFnv (tb (tN t)) (kPos ru tab (tb (tN t)) (len (tN t)) k) (kPos ru tab (tb (tN t)) (len (tN t)) (k + 1) - kPos ru tab (tb (tN t)) (len (tN t)) k) := by
    by_cases e : tN t = tN s
    · rw [e]; exact hX2.1
    · intro k hk
      rw [hF2 _ (by omega)]
      exact hX1.1 k hk
  have e0 : (if kT t ∧ kT s ∧ (0 ≤ w.toInt ∧ w.toInt ≤ 3) then kAlk (tb (tN t)) (kPos ru tab (tb (tN t)) (len (tN t))) (kCnt ru tab (tb (tN t)) (len (tN t))) (tb (tN s)) (kPos ru tab (tb (tN s)) (len (tN s))) (kCnt ru tab (tb (tN s)) (len (tN s))) w else -1) = kAlk (tb (tN t)) (kPos ru tab (tb (tN t)) (len (tN t))) (kCnt ru tab (tb (tN t)) (len (tN t))) (tb (tN s)) (kPos ru tab (tb (tN s)) (len (tN s))) (kCnt ru tab (tb (tN s)) (len (tN s))) w := if_pos ⟨ht, hs, hw, hw1⟩
  refine bl_Cb_alike_37 (fun h => ?_) (fun h => ?_) (fun h => ?_) (fun h => ?_)
  · refine bp_Cb_alike_68 (dc := 3) (s3 _ hk).2.1 (c_Row_blocksIn (by omega) (s3 _ hk).2 (by omega) (by omega) hR1' hE1 (s3 _ hk').2 (by omega) (by omega) hR2 hX2 hC2) (by omega) (fun v M hv => ?_)
    obtain ⟨rfl, rfl⟩ := hv
    refine bl_Cb_alike_75 ⟨rfl, rfl, ?_, hFF, hA2⟩
    unfold sAlike
    rw [e0]
    unfold kAlk
    rw [if_pos (show w = 0 from h)]
  · refine bp_Cb_alike_76 (dc := 3) (s3 _ hk).2.1 (c_Row_bytesIn (by omega) (s3 _ hk).2 (by omega) (by omega) hR1' hE1 (s3 _ hk').2 (by omega) (by omega) hR2 hX2 hC2) (by omega) (fun v M hv => ?_)
    obtain ⟨rfl, rfl⟩ := hv
    refine bl_Cb_alike_83 ⟨rfl, rfl, ?_, hFF, hA2⟩
    unfold sAlike
    rw [e0]
    unfold kAlk
    rw [if_neg (by rw [h]; decide), if_pos (show w = 1 from h)]
  · refine bp_Cb_alike_84 (dc := 2) (s3 _ hk).2.1 (c_Row_firstLike (by omega) (s3 _ hk).2 (by omega) (by omega) hR1' hE1 (s3 _ hk').2 (by omega) (by omega) hR2 hX2.1) (by omega) (fun v M hv => ?_)
    obtain ⟨rfl, rfl⟩ := hv
    refine bl_Cb_alike_91 ⟨rfl, rfl, ?_, hFF, hA2⟩
    unfold sAlike
    rw [e0]
    unfold kAlk
    rw [if_neg (by rw [h]; decide), if_neg (by rw [h]; decide), if_pos (show w = 2 from h)]
  · refine bp_Cb_alike_92 (dc := 2) (s3 _ hk).2.1 (c_Row_lastLike (by omega) (s3 _ hk).2 (by omega) (by omega) hR1' hE1 (s3 _ hk').2 (by omega) (by omega) hR2 hX2.1) (by omega) (fun v M hv => ?_)
    obtain ⟨rfl, rfl⟩ := hv
    refine bl_Cb_alike_99 ⟨rfl, rfl, ?_, hFF, hA2⟩
    unfold sAlike
    rw [e0]
    unfold kAlk
    rw [if_neg (show ¬ w = 0 from h 0 (by omega)), if_neg (show ¬ w = 1 from h 1 (by omega)), if_neg (show ¬ w = 2 from h 2 (by omega))]
