theorem c_lay {d : Nat} {B : kv_B} {n : Nat} {S : kv_SM} {I : kv_IM} (hd : 3 ≤ d) {w t q : Nat} {ru : Nat → Nat} {tab : Nat → Int32} {len : Nat → Nat} {tb : Nat → Nat → Nat} (hS : MdS S w) (hA : MdA I w ru tab len tb) (hok : RuOK ru) (ht : t < 4) (hq : q = w + 4 ∨ q = w + 5) :
    kv_P y_Md_layCuts d B [.ref w, .int (nI t), .ref q] n S I (fun v J => v = some (.int (nI (kCnt ru tab (tb t) (len t)))) ∧ (∀ a, a ≠ q → J a = I a) ∧ ∀ k, k ≤ kCnt ru tab (tb t) (len t) → J q k = nI (kPos ru tab (tb t) (len t) k)) := by
  obtain ⟨a1, a2, a3⟩ := id hA
  obtain ⟨g1, g2, g3⟩ := a3 t ht
  have hf : ∀ i, i < len t → tb t i < 256 := fun i hi => (g3 i hi).2
  refine (c_Md_layCuts hd hS ht g3 g1 g2 a1 hok hq).mono ?_
  intro v J hv
  obtain ⟨rfl, hJ⟩ := hv
  rw [kPos_tabF a2 hf, kCnt_tab a2 hf] at hJ
  refine ⟨by rw [kCnt_tab a2 hf], fun a ha => by rw [← hJ]; exact kFl_ne ha, fun k hk => by rw [← hJ]; exact kFl_at (by omega)⟩
theorem layA {I J : kv_IM} {w q : Nat} {ru : Nat → Nat} {tab : Nat → Int32} {len : Nat → Nat} {tb : Nat → Nat → Nat} (hA : MdA I w ru tab len tb) (hq : q = w + 4 ∨ q = w + 5) (hF : ∀ a, a ≠ q → J a = I a) : MdA J w ru tab len tb ∧ MdK w I J := ⟨MdA_of hA (fun i _ _ => by rw [hF w (by omega)]) (fun a h1 h2 => hF a (by omega)), fun a ha => hF a (by omega), by rw [hF w (by omega)], by rw [hF w (by omega)]⟩
theorem c_Md_blocks {d : Nat} {B : kv_B} {n : Nat} {S : kv_SM} {I : kv_IM} (hd : 4 ≤ d) {w : Nat} {ru : Nat → Nat} {tab : Nat → Int32} {len : Nat → Nat} {tb : Nat → Nat → Nat} (t : Int32) (hS : MdS S w) (hA' : MdA I w ru tab len tb) (hok : RuOK ru) :
    kv_P y_Md_blocks d B [.ref w, .int t] n S I (MdR I w ru tab len tb (.int (sBlocks ru tab len tb t))) := by
  obtain ⟨s0, s1, s2, s3, -⟩ := id hS
  have hA := kC0_A hA'
  refine kv_P.of (by decide +kernel) rfl (Nat.le_of_ble_eq_true rfl) ?_
  refine bp_Md_blocks_0 (dc := 1) s0 (c_Md_isText (by omega) t) (by omega) (fun v J hv => ?_)
  obtain ⟨rfl, rfl⟩ := hv
  refine bl_Md_blocks_9 (fun h => ?_) (fun h => ?_)
  · refine bl_Md_blocks_24 (bl_Md_blocks_25 ⟨rfl, rfl, ?_, kC0_K, hA⟩)
    unfold sBlocks
    rw [if_neg (kB_e0.mp h)]
  · have ht : kT t := Classical.not_not.mp (fun q => h (kB_e0.mpr q))
    obtain ⟨hk, et⟩ := kT_of ht
    refine bp_Md_blocks_12 (dc := 3) s0 rfl (by rw [et]; exact c_lay (by omega) hS hA hok hk (Or.inl rfl)) (by omega) (fun v J hv => ?_)
    obtain ⟨rfl, hF, -⟩ := hv
    obtain ⟨hA1, hK1⟩ := layA hA (Or.inl rfl) hF
    refine bl_Md_blocks_21 (bl_Md_blocks_25 ⟨rfl, rfl, ?_, MdK_tr kC0_K hK1, hA1⟩)
    unfold sBlocks
    rw [if_pos ht]
theorem c_Md_isBlock {d : Nat} {B : kv_B} {n : Nat} {S : kv_SM} {I : kv_IM} (hd : 4 ≤ d) {w : Nat} {ru : Nat → Nat} {tab : Nat → Int32} {len : Nat → Nat} {tb : Nat → Nat → Nat} (t k : Int32) (hS : MdS S w) (hA : MdA I w ru tab len tb) (hok : RuOK ru) :
    kv_P y_Md_isBlock d B [.ref w, .int t, .int k] n S I (fun v J => v = some (.int (kB (kHB ru tab len tb t k))) ∧ MdK w I J ∧ MdA J w ru tab len tb ∧ (kT t → ∀ i, i ≤ kCnt ru tab (tb (tN t)) (len (tN t)) → J (w + 4) i = nI (kPos ru tab (tb (tN t)) (len (tN t)) i))) := by
  obtain ⟨s0, s1, s2, s3, -⟩ := id hS
  have t0 : (0 : Int32).toInt = 0 := by decide
  refine kv_P.of (by decide +kernel) rfl (Nat.le_of_ble_eq_true rfl) ?_
  refine bp_Md_isBlock_0 (dc := 1) (c_Md_isText (by omega) t) (by omega) (fun v J hv => ?_)
  obtain ⟨rfl, rfl⟩ := hv
  refine bl_Md_isBlock_4 (fun h => ?_) (fun h => ?_)
  rotate_left
  · have hn := kB_e0.mp h
    exact bl_Md_isBlock_7 ⟨rfl, rfl, by rw [kB_f (fun q => hn q.1)], MdK_rf, hA, fun q => absurd q hn⟩
  have ht : kT t := Classical.not_not.mp (fun q => h (kB_e0.mpr q))
  obtain ⟨hk, et⟩ := kT_of ht
  refine bp_Md_isBlock_9 (dc := 3) s0 rfl (by rw [et]; exact c_lay (by omega) hS hA hok hk (Or.inl rfl)) (by omega) (fun v J hv => ?_)
  obtain ⟨rfl, hF, hP⟩ := hv
  obtain ⟨hA1, hK1⟩ := layA hA (Or.inl rfl) hF
  have hl := (hA.2.2 _ hk).1
  have hcl := kCnt_le (ru := ru) (tab := tab) (f := tb (tN t)) (len := len (tN t))
  have e11 : kv_up J w 11 (nI (kCnt ru tab (tb (tN t)) (len (tN t)))) w 11 = nI (kCnt ru tab (tb (tN t)) (len (tN t))) := by simp [kv_up]
  have hsub : (nI (kCnt ru tab (tb (tN t)) (len (tN t))) - 1).toInt = (kCnt ru tab (tb (tN t)) (len (tN t)) : Int) - 1 := by
    show (nI _ - nI 1).toInt = _
    rw [pk_sub_toInt (by omega) (by omega)]
    rfl
  refine bp_Md_isBlock_19 (dc := 0) s0 s0 (by rw [e11]; exact c_Md_in k 0 _) (by omega) (fun v K hv => ?_)
  obtain ⟨rfl, rfl⟩ := hv
  have eo : ∀ a, a ≠ w → kv_up J w 11 (nI (kCnt ru tab (tb (tN t)) (len (tN t)))) a = J a := by
    intro a ha
    funext i
    simp [kv_up, ha]
  have ei : ∀ i, i ≠ 11 → kv_up J w 11 (nI (kCnt ru tab (tb (tN t)) (len (tN t)))) w i = J w i := by
    intro i hi
    simp [kv_up, hi]
  refine bl_Md_isBlock_33 (kB_n _) ⟨rfl, rfl, ?_, MdK_tr hK1 ⟨fun a ha => eo a (by omega), ei 15 (by omega), ei 16 (by omega)⟩, MdA_of hA1 (fun i h1 h2 => ei i (by omega)) (fun a h1 h2 => eo a (by omega)), fun _ i hi => ?_⟩
  · by_cases h9 : kHB ru tab len tb t k
    · rw [kB_t h9, kB_t (by have := h9.2; omega)]
    · rw [kB_f h9, kB_f (fun q => h9 ⟨ht, by omega, by omega⟩)]
  · rw [eo _ (by omega)]
    exact hP i hi
theorem c_Md_block {d : Nat} {B : kv_B} {n : Nat} {S : kv_SM} {I : kv_IM} (hd : 5 ≤ d) {w : Nat} {ru : Nat → Nat} {tab : Nat → Int32} {len : Nat → Nat} {tb : Nat → Nat → Nat} (t k x : Int32) (hS : MdS S w) (hA' : MdA I w ru tab len tb) (hok : RuOK ru) :
    kv_P y_Md_block d B [.ref w, .int t, .int k, .int x] n S I (MdR I w ru tab len tb (.int (sBlock ru tab len tb t k x))) := by
  obtain ⟨s0, s1, s2, s3, s4, -⟩ := id hS
  have t0 : (0 : Int32).toInt = 0 := by decide
  have t1 : (1 : Int32).toInt = 1 := by decide
  refine kv_P.of (by decide +kernel) rfl (Nat.le_of_ble_eq_true rfl) ?_
  refine bp_Md_block_0 (dc := 4) s0 (c_Md_isBlock (by omega) t k hS (kC0_A hA') hok) (by omega) (fun v J hv => ?_)
  obtain ⟨rfl, hK, hA, hP⟩ := hv
  have hK := MdK_tr kC0_K hK
  have bad : ¬ (kHB ru tab len tb t k ∧ (0 ≤ x.toInt ∧ x.toInt ≤ 1)) → kv_V y_Md_block d B (kv_PQ n S (MdR I w ru tab len tb (.int (sBlock ru tab len tb t k x)))) 0 0 n S J 23 [(0, .ref w), (1, .int t), (2, .int k), (3, .int x)] [] := by
    intro hn
    refine bl_Md_block_23 ⟨rfl, rfl, ?_, hK, hA⟩
    unfold sBlock
    rw [if_neg hn]
  refine bl_Md_block_11 (fun h => bad (fun q => kB_e0.mp h q.1)) (fun h => ?_)
  have hb := Classical.not_not.mp (fun q => h (kB_e0.mpr q))
  refine bp_Md_block_14 (dc := 0) (c_Md_in x 0 1) (by omega) (fun v K hv => ?_)
  obtain ⟨rfl, rfl⟩ := hv
  refine bl_Md_block_20 (fun h => ?_) (fun h => bad (fun q => kB_e0.mp h (by have := q.2; omega)))
  have hx := Classical.not_not.mp (fun q => h (kB_e0.mpr q))
  rw [t0, t1] at hx
  obtain ⟨ht, hk0, hk1⟩ := id hb
  obtain ⟨hk, et⟩ := kT_of ht
  obtain ⟨i1, i2, i3⟩ := tN_of hk0
  have hPt := hP ht
  have hl := (hA.2.2 _ hk).1
  have hcl := kCnt_le (ru := ru) (tab := tab) (f := tb (tN t)) (len := len (tN t))
  have hinc := kPos_inc (show tN k < kCnt ru tab (tb (tN t)) (len (tN t)) by omega)
  refine bl_Md_block_25 (fun h0 => ?_) (fun h0 => ?_)
  · refine bl_Md_block_38 s0 rfl s4 (j4 := tN k + 1) ⟨?_, by omega, by omega⟩ (j5 := tN k) ⟨i1, by omega, by omega⟩ (bl_Md_block_53 ⟨rfl, rfl, ?_, hK, hA⟩)
    · have := nI_1 (tN k)
      rw [← i1] at this
      exact this
    · unfold sBlock
      rw [if_pos ⟨hb, hx⟩, if_neg h0, hPt _ (by omega), hPt _ (by omega), pk_sub (by omega)]
  · refine bl_Md_block_29 s0 rfl s4 (j4 := tN k) ⟨i1, by omega, by omega⟩ (bl_Md_block_53 ⟨rfl, rfl, ?_, hK, hA⟩)
    unfold sBlock
    rw [if_pos ⟨hb, hx⟩, if_pos h0, hPt _ (by omega)]
theorem c_Md_digest {d : Nat} {B : kv_B} {n : Nat} {S : kv_SM} {I : kv_IM} (hd : 5 ≤ d) {w : Nat} {ru : Nat → Nat} {tab : Nat → Int32} {len : Nat → Nat} {tb : Nat → Nat → Nat} (t k x : Int32) (hS : MdS S w) (hA' : MdA I w ru tab len tb) (hok : RuOK ru) :
    kv_P y_Md_digest d B [.ref w, .int t, .int k, .int x] n S I (MdR I w ru tab len tb (.long (sDigest ru tab len tb t k x))) := by
  obtain ⟨s0, s1, s2, s3, s4, -⟩ := id hS
  have t0 : (0 : Int32).toInt = 0 := by decide
  have t1 : (1 : Int32).toInt = 1 := by decide
  refine kv_P.of (by decide +kernel) rfl (Nat.le_of_ble_eq_true rfl) ?_
  refine bp_Md_digest_0 (dc := 4) s0 (c_Md_isBlock (by omega) t k hS (kC0_A hA') hok) (by omega) (fun v J hv => ?_)
  obtain ⟨rfl, hK, hA, hP⟩ := hv
  have hK := MdK_tr kC0_K hK
  have bad : ¬ (kHB ru tab len tb t k ∧ (0 ≤ x.toInt ∧ x.toInt ≤ 1)) → kv_V y_Md_digest d B (kv_PQ n S (MdR I w ru tab len tb (.long (sDigest ru tab len tb t k x)))) 0 0 n S J 23 [(0, .ref w), (1, .int t), (2, .int k), (3, .int x)] [] := by
    intro hn
    refine bl_Md_digest_23 ⟨rfl, rfl, ?_, hK, hA⟩
    unfold sDigest
    rw [if_neg hn]
  refine bl_Md_digest_11 (fun h => bad (fun q => kB_e0.mp h q.1)) (fun h => ?_)
  have hb := Classical.not_not.mp (fun q => h (kB_e0.mpr q))
  refine bp_Md_digest_14 (dc := 0) (c_Md_in x 0 1) (by omega) (fun v K hv => ?_)
  obtain ⟨rfl, rfl⟩ := hv
  refine bl_Md_digest_20 (fun h => ?_) (fun h => bad (fun q => kB_e0.mp h (by have := q.2; omega)))
  have hx := Classical.not_not.mp (fun q => h (kB_e0.mpr q))
  rw [t0, t1] at hx
  obtain ⟨ht, hk0, hk1⟩ := id hb
  obtain ⟨hk, et⟩ := kT_of ht
  obtain ⟨i1, i2, i3⟩ := tN_of hk0
  have hPt := hP ht
  obtain ⟨hl, hz, hX⟩ := hA.2.2 _ hk
  have hcl := kCnt_le (ru := ru) (tab := tab) (f := tb (tN t)) (len := len (tN t))
  have hinc := kPos_inc (show tN k < kCnt ru tab (tb (tN t)) (len (tN t)) by omega)
  have hple := kPos_le (ru := ru) (tab := tab) (f := tb (tN t)) (len := len (tN t)) (tN k + 1)
  refine bp_Md_digest_27 (dc := 0) s0 rfl rfl s4 (j5 := tN k) ⟨i1, by omega, by omega⟩ (j6 := tN k + 1) ⟨?_, by omega, by omega⟩ (by
    have ee : ∀ p, (1500 : Int32) * t + nI p = nI (1500 * tN t + p) := by
      intro p
      have : nI 1500 * nI (tN t) + nI p = nI (1500 * tN t + p) := by rw [pk_mul, nI_add]
      rw [← et] at this
      exact this
    rw [hPt _ (by omega), hPt _ (by omega), ee, ee]
    exact c_Md_digestOf x s1 (by omega) hX (by omega) (by omega) (by omega)) (by omega) (fun v M hv => ?_)
  · have := nI_1 (tN k)
    rw [← i1] at this
    exact this
  · obtain ⟨rfl, rfl⟩ := hv
    refine bl_Md_digest_61 ⟨rfl, rfl, ?_, hK, hA⟩
    have e9 : sDigest ru tab len tb t k x = kDig (tb (tN t)) (kPos ru tab (tb (tN t)) (len (tN t))) (tN k) x := by
      unfold sDigest
      exact if_pos ⟨hb, hx⟩
    rw [e9]
    rfl
theorem c_Md_hash {d : Nat} {B : kv_B} {n : Nat} {S : kv_SM} {I : kv_IM} (hd : 4 ≤ d) {w : Nat} {ru : Nat → Nat} {tab : Nat → Int32} {len : Nat → Nat} {tb : Nat → Nat → Nat} (t i : Int32) (hS : MdS S w) (hA' : MdA I w ru tab len tb) (hok : RuOK ru) :
    kv_P y_Md_hash d B [.ref w, .int t, .int i] n S I (MdR I w ru tab len tb (.long (sHash ru tab len tb t i))) := by
  obtain ⟨s0, s1, s2, s3, s4, -⟩ := id hS
  have t0 : (0 : Int32).toInt = 0 := by decide
  have hA := kC0_A hA'
  have hK0 := kC0_K (I := I) (w := w)
  refine kv_P.of (by decide +kernel) rfl (Nat.le_of_ble_eq_true rfl) ?_
  refine bp_Md_hash_0 (dc := 1) s0 (c_Md_isText (by omega) t) (by omega) (fun v J hv => ?_)
  obtain ⟨rfl, rfl⟩ := hv
  show kv_V _ _ _ _ _ _ _ _ (kC0 I w) _ _ _
  generalize kC0 I w = I0 at *
  have bad : ¬ (kT t ∧ (0 ≤ i.toInt ∧ i.toInt < len (tN t))) → kv_V y_Md_hash d B (kv_PQ n S (MdR I w ru tab len tb (.long (sHash ru tab len tb t i)))) 0 0 n S I0 28 [(0, .ref w), (1, .int t), (2, .int i)] [] := by
    intro hn
    refine bl_Md_hash_28 ⟨rfl, rfl, ?_, hK0, hA⟩
    unfold sHash
    rw [if_neg hn]
  refine bl_Md_hash_9 (fun h => bad (fun q => kB_e0.mp h q.1)) (fun h => ?_)
  have ht : kT t := Classical.not_not.mp (fun q => h (kB_e0.mpr q))
  obtain ⟨hk, et⟩ := kT_of ht
  obtain ⟨hl, hz, hX⟩ := hA.2.2 (tN t) hk
  have hzI : (I0 (w + 2) (tN t) - 1).toInt = (len (tN t) : Int) - 1 := by
    rw [hz]
    show (nI (len (tN t)) - nI 1).toInt = _
    rw [pk_sub_toInt (by omega) (by omega)]
    rfl
  refine bp_Md_hash_12 (dc := 0) s0 rfl s2 (j4 := tN t) ⟨et, hk, by omega⟩ (c_Md_in i 0 _) (by omega) (fun v J hv => ?_)
  obtain ⟨rfl, rfl⟩ := hv
  refine bl_Md_hash_25 (fun h => ?_) (fun h => bad (fun q => kB_e0.mp h (by have := q.2; omega)))
  have hi := Classical.not_not.mp (fun q => h (kB_e0.mpr q))
  rw [t0, hzI] at hi
  obtain ⟨i1, i2, i3⟩ := tN_of hi.1
  refine bp_Md_hash_32 (dc := 3) s0 rfl (by rw [et]; exact c_lay (by omega) hS hA hok hk (Or.inl rfl)) (by omega) (fun v J hv => ?_)
  obtain ⟨rfl, hF, hP⟩ := hv
  obtain ⟨hA1, hK1⟩ := layA hA (Or.inl rfl) hF
  have hKK := MdK_tr hK0 hK1
  have hcl := kCnt_le (ru := ru) (tab := tab) (f := tb (tN t)) (len := len (tN t))
  have hc0 : 0 < kCnt ru tab (tb (tN t)) (len (tN t)) := by
    apply Nat.pos_of_ne_zero
    intro q
    have := kCnt_end (ru := ru) (tab := tab) (f := tb (tN t)) (len := len (tN t))
    rw [q, kPos] at this
    omega
  have hres : sHash ru tab len tb t i = kHs (ru 0) tab (tb (tN t)) (kPos ru tab (tb (tN t)) (len (tN t))) (kCnt ru tab (tb (tN t)) (len (tN t))) (tN i) := by
    unfold sHash
    rw [if_pos ⟨ht, by omega, by omega⟩]
  rw [hres]
  obtain ⟨b1, b2, b3⟩ := id hA1
  obtain ⟨hl1, hz1, hX1⟩ := b3 (tN t) hk
  have hf : ∀ z, z < len (tN t) → tb (tN t) z < 256 := fun z hz => (hX1 z hz).2
  have hp00 : kPos ru tab (tb (tN t)) (len (tN t)) 0 = 0 := by rw [kPos]
  have hmo : ∀ z, kPos ru tab (tb (tN t)) (len (tN t)) z ≤ len (tN t) := fun z => kPos_le z
  generalize kPos ru tab (tb (tN t)) (len (tN t)) = p at *
  generalize kCnt ru tab (tb (tN t)) (len (tN t)) = c at *
  refine bl_Md_hash_41 ?_
  have tail : ∀ kk, kk < c → p kk ≤ tN i → kv_V y_Md_hash d B (kv_PQ n S (MdR I w ru tab len tb (.long ((kH (ru 0) tab (tb (tN t)) (p kk) (tN i + 1 - p kk)).toInt64 &&& 4294967295)))) 0 0 n S J 72 [(0, .ref w), (1, .int t), (2, .int i), (3, .int (nI c)), (4, .int (nI kk))] [] := by
    intro kk hkc hpi
    refine bl_Md_hash_72 ?_
    have loop : ∀ (j m : Nat), m + j = tN i + 1 - p kk → kv_V y_Md_hash d B (kv_PQ n S (MdR I w ru tab len tb (.long ((kH (ru 0) tab (tb (tN t)) (p kk) (tN i + 1 - p kk)).toInt64 &&& 4294967295)))) 0 0 n S J 78 [(0, .ref w), (1, .int t), (2, .int i), (3, .int (nI c)), (4, .int (nI kk)), (5, .int (kH (ru 0) tab (tb (tN t)) (p kk) m)), (6, .int (nI (m + 1)))] [] := by
      intro j
      induction j with
      | zero =>
        intro m hm
        refine bl_Md_hash_78 s0 rfl s4 (j4 := kk) ⟨rfl, by omega, by omega⟩ (fun _ => ?_) (fun h => absurd ?_ h)
        · refine bl_Md_hash_118 ⟨rfl, rfl, ?_, hKK, hA1⟩
          rw [show m = tN i + 1 - p kk by omega]
        · rw [hP kk (by omega), nI_add]
          show i < nI (p kk + (m + 1)) - nI 1
          rw [pk_sub (by omega), i1]
          exact nI_lt (by omega) (by have := hmo kk; omega)
      | succ j ih =>
        intro m hm
        refine bl_Md_hash_78 s0 rfl s4 (j4 := kk) ⟨rfl, by omega, by omega⟩ (fun h => absurd h ?_) (fun _ => ?_)
        · rw [hP kk (by omega), nI_add]
          show ¬ i < nI (p kk + (m + 1)) - nI 1
          rw [pk_sub (by omega), i1]
          exact nI_nlt (by omega) (by omega)
        · refine bp_Md_hash_94 (dc := 1) s0 rfl s4 (j4 := kk) ⟨rfl, by omega, by omega⟩ (by
            rw [hP kk (by omega)]
            have hn := c_Md_next (d := 1) (B := B) (n := n) (S := S) (I := J) (st := p kk) (k := m + 1) (by omega) (kH (ru 0) tab (tb (tN t)) (p kk) m) hS hk hX1 hl1 (by omega) (by omega) (b1 0 (by omega)) hok.1
            rw [← et, kNx_tab b2 hf (by omega) (by omega)] at hn
            exact hn) (by omega) (fun v M hv => ?_)
          obtain ⟨rfl, rfl⟩ := hv
          refine bl_Md_hash_110 ?_
          rw [nI_1]
          exact ih (m + 1) (by omega)
    exact loop _ 0 (Nat.zero_add _)
  have find : ∀ (j kk : Nat), kk < c → c ≤ kk + j → p kk ≤ tN i → kv_V y_Md_hash d B (kv_PQ n S (MdR I w ru tab len tb (.long ((kH (ru 0) tab (tb (tN t)) (p (kBk p c (tN i) j kk)) (tN i + 1 - p (kBk p c (tN i) j kk))).toInt64 &&& 4294967295)))) 0 0 n S J 45 [(0, .ref w), (1, .int t), (2, .int i), (3, .int (nI c)), (4, .int (nI kk))] [] := by
    intro j
    induction j with
    | zero => intro kk h1 h2; omega
    | succ j ih =>
      intro kk h1 h2 h3
      have e3 : nI c - 1 = nI (c - 1) := pk_sub (b := 1) (by omega)
      refine bl_Md_hash_45 (fun h => ?_) (fun h => ?_)
      · rw [e3, nI_leI (by omega) (by omega)] at h
        rw [kBk, if_neg (fun q => by omega)]
        exact tail kk h1 h3
      · rw [e3, nI_leI (by omega) (by omega)] at h
        refine bl_Md_hash_53 s0 rfl s4 (j4 := kk + 1) ⟨nI_1 kk, by omega, by omega⟩ (fun h4 => ?_) (fun h4 => ?_)
        · have := hmo (kk + 1)
          rw [hP _ (by omega), i1, nI_ltI (by omega) (by omega)] at h4
          rw [kBk, if_neg (fun q => by omega)]
          exact tail kk h1 h3
        · have := hmo (kk + 1)
          rw [hP _ (by omega), i1, nI_ltI (by omega) (by omega)] at h4
          refine bl_Md_hash_66 ?_
          rw [nI_1, kBk, if_pos ⟨by omega, by omega⟩]
          exact ih (kk + 1) (by omega) (by omega) (by omega)
  exact find c 0 hc0 (by omega) (by omega)
