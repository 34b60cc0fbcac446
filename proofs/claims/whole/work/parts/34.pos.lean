theorem kCut_bd {ru : Nat → Nat} {tab : Nat → Int32} {f : Nat → Nat} {st len : Nat} (hst : st < len) : ∀ (k j : Nat) (h : Int32) (oth : Nat), 1 ≤ j → st + j ≤ len + 1 → len + 1 ≤ st + j + k → oth < j → 1 ≤ kCut ru tab f st len k j h oth ∧ st + kCut ru tab f st len k j h oth ≤ len := by
  intro k
  induction k with
  | zero =>
    intro j h oth h1 h2 h3 h4
    rw [kCut]
    omega
  | succ k ih =>
    intro j h oth h1 h2 h3 h4
    rw [kCut]
    by_cases hj : st + j ≤ len
    · rw [if_pos hj]
      by_cases hal : kAl ru j
      · rw [if_pos hal]
        split
        · omega
        · split
          · split <;> omega
          · refine ih _ _ _ (by omega) (by omega) (by omega) ?_
            split <;> omega
      · rw [if_neg hal]
        exact ih _ _ _ (by omega) (by omega) (by omega) (by omega)
    · rw [if_neg hj]
      omega
theorem kLen_bd {ru : Nat → Nat} {tab : Nat → Int32} {f : Nat → Nat} {st len : Nat} (hst : st < len) : 1 ≤ kLen ru tab f st len ∧ st + kLen ru tab f st len ≤ len := kCut_bd hst _ _ _ _ (by omega) (by omega) (by omega) (by omega)
def kPos (ru : Nat → Nat) (tab : Nat → Int32) (f : Nat → Nat) (len : Nat) : Nat → Nat
  | 0 => 0
  | k + 1 => if kPos ru tab f len k < len then kPos ru tab f len k + kLen ru tab f (kPos ru tab f len k) len else kPos ru tab f len k
def kCn (ru : Nat → Nat) (tab : Nat → Int32) (f : Nat → Nat) (len : Nat) : Nat → Nat → Nat
  | 0, k => k
  | j + 1, k => if kPos ru tab f len k < len then kCn ru tab f len j (k + 1) else k
def kCnt (ru : Nat → Nat) (tab : Nat → Int32) (f : Nat → Nat) (len : Nat) : Nat := kCn ru tab f len len 0
theorem kPos_step {ru : Nat → Nat} {tab : Nat → Int32} {f : Nat → Nat} {len k : Nat} (h : kPos ru tab f len k < len) : kPos ru tab f len (k + 1) = kPos ru tab f len k + kLen ru tab f (kPos ru tab f len k) len := by rw [kPos, if_pos h]
theorem kPos_le {ru : Nat → Nat} {tab : Nat → Int32} {f : Nat → Nat} {len : Nat} : ∀ k, kPos ru tab f len k ≤ len
  | 0 => Nat.zero_le _
  | k + 1 => by
    by_cases h : kPos ru tab f len k < len
    · rw [kPos_step h]
      exact (kLen_bd h).2
    · rw [kPos, if_neg h]
      exact kPos_le k
theorem kCn_spec {ru : Nat → Nat} {tab : Nat → Int32} {f : Nat → Nat} {len : Nat} : ∀ (j k : Nat), (∀ i, i < k → kPos ru tab f len i < len) → len ≤ kPos ru tab f len k + j → (∀ i, i < kCn ru tab f len j k → kPos ru tab f len i < len) ∧ kPos ru tab f len (kCn ru tab f len j k) = len ∧ kCn ru tab f len j k ≤ k + j
  | 0, k, h1, h2 => ⟨h1, Nat.le_antisymm (kPos_le k) h2, Nat.le_refl _⟩
  | j + 1, k, h1, h2 => by
    rw [kCn]
    by_cases h : kPos ru tab f len k < len
    · rw [if_pos h]
      have hb := kLen_bd (ru := ru) (tab := tab) (f := f) h
      have hs := kPos_step h
      obtain ⟨g1, g2, g3⟩ := kCn_spec j (k + 1) (fun i hi => by
        by_cases hik : i = k
        · subst hik; exact h
        · exact h1 i (by omega)) (by omega)
      exact ⟨g1, g2, by omega⟩
    · rw [if_neg h]
      have := kPos_le (ru := ru) (tab := tab) (f := f) (len := len) k
      exact ⟨h1, by omega, by omega⟩
theorem kCnt_lt {ru : Nat → Nat} {tab : Nat → Int32} {f : Nat → Nat} {len k : Nat} (h : k < kCnt ru tab f len) : kPos ru tab f len k < len := (kCn_spec len 0 (fun i hi => absurd hi (by omega)) (by omega)).1 k h
theorem kCnt_end {ru : Nat → Nat} {tab : Nat → Int32} {f : Nat → Nat} {len : Nat} : kPos ru tab f len (kCnt ru tab f len) = len := (kCn_spec len 0 (fun i hi => absurd hi (by omega)) (by omega)).2.1
theorem kCnt_le {ru : Nat → Nat} {tab : Nat → Int32} {f : Nat → Nat} {len : Nat} : kCnt ru tab f len ≤ len := by
  have := (kCn_spec (ru := ru) (tab := tab) (f := f) (len := len) len 0 (fun i hi => absurd hi (by omega)) (by omega)).2.2
  unfold kCnt
  omega
theorem kPos_inc {ru : Nat → Nat} {tab : Nat → Int32} {f : Nat → Nat} {len k : Nat} (h : k < kCnt ru tab f len) : kPos ru tab f len k < kPos ru tab f len (k + 1) := by
  have h1 := kCnt_lt h
  have := (kLen_bd (ru := ru) (tab := tab) (f := f) h1).1
  rw [kPos_step h1]
  omega
theorem kPos_mono {ru : Nat → Nat} {tab : Nat → Int32} {f : Nat → Nat} {len : Nat} {i : Nat} : ∀ {k : Nat}, i ≤ k → kPos ru tab f len i ≤ kPos ru tab f len k
  | 0, h => by rw [show i = 0 by omega]; exact Nat.le_refl _
  | k + 1, h => by
    by_cases hik : i = k + 1
    · rw [hik]; exact Nat.le_refl _
    · refine Nat.le_trans (kPos_mono (k := k) (by omega)) ?_
      rw [kPos]
      split <;> omega
def kFl (I : kv_IM) (q : Nat) (p : Nat → Nat) (k : Nat) : kv_IM := fun a i => if a = q then (if i < k then nI (p i) else I a i) else I a i
theorem kFl_ne {I : kv_IM} {q : Nat} {p : Nat → Nat} {k a : Nat} (h : a ≠ q) : kFl I q p k a = I a := by
  funext i
  simp [kFl, h]
theorem kFl_at {I : kv_IM} {q : Nat} {p : Nat → Nat} {k i : Nat} (h : i < k) : kFl I q p k q i = nI (p i) := by simp [kFl, h]
theorem kFl_0 {I : kv_IM} {q : Nat} {p : Nat → Nat} : kFl I q p 0 = I := by
  funext a i
  simp [kFl]
theorem kFl_up {I : kv_IM} {q : Nat} {p : Nat → Nat} {k : Nat} : kv_up (kFl I q p k) q k (nI (p k)) = kFl I q p (k + 1) := by
  funext a i
  unfold kv_up kFl
  by_cases ha : a = q
  · subst ha
    simp only [if_true]
    by_cases hi : i = k
    · subst hi
      simp
    · rw [if_neg hi]
      by_cases h2 : i < k
      · rw [if_pos h2, if_pos (by omega)]
      · rw [if_neg h2, if_neg (by omega)]
  · simp [ha]
theorem kTx_of {I J : kv_IM} {a off : Nat} {f : Nat → Nat} {len : Nat} (h : kTx I a off f len) (e : J a = I a) : kTx J a off f len := fun i hi => by rw [e]; exact h i hi
theorem RuI_of {I J : kv_IM} {a k0 : Nat} {ru : Nat → Nat} (h : RuI I a k0 ru) (e : J a = I a) : RuI J a k0 ru := fun i hi => by rw [e]; exact h i hi
theorem c_Md_layCuts {d : Nat} {B : kv_B} {n : Nat} {S : kv_SM} {I : kv_IM} (hd : 3 ≤ d) {w t len q : Nat} {f : Nat → Nat} {ru : Nat → Nat} (hS : MdS S w) (ht : t < 4) (hT : kTx I (w + 1) (1500 * t) f len) (hl : len ≤ 1500) (hz : I (w + 2) t = nI len) (hru : RuI I w 4 ru) (hok : RuOK ru) (hq : q = w + 4 ∨ q = w + 5) :
    kv_P y_Md_layCuts d B [.ref w, .int (nI t), .ref q] n S I (kQi (nI (kCnt ru (I (w + 3)) f len)) (kFl I q (kPos ru (I (w + 3)) f len) (kCnt ru (I (w + 3)) f len + 1))) := by
  obtain ⟨s0, s1, s2, s3, s4, s5, -⟩ := id hS
  have sq : S q = kI 1501 := by rcases hq with rfl | rfl <;> assumption
  have q0 : w ≠ q := by omega
  have q1 : w + 1 ≠ q := by omega
  have q2 : w + 2 ≠ q := by omega
  have q3 : w + 3 ≠ q := by omega
  have hcl := kCnt_le (ru := ru) (tab := I (w + 3)) (f := f) (len := len)
  refine kv_P.of (by decide +kernel) rfl (Nat.le_of_ble_eq_true rfl) ?_
  refine bl_Md_layCuts_0 ?_
  have loop : ∀ (j k : Nat), k + j = kCnt ru (I (w + 3)) f len → kv_V y_Md_layCuts d B (kv_PQ n S (kQi (nI (kCnt ru (I (w + 3)) f len)) (kFl I q (kPos ru (I (w + 3)) f len) (kCnt ru (I (w + 3)) f len + 1)))) 0 0 n S (kFl I q (kPos ru (I (w + 3)) f len) k) 5 [(0, .ref w), (1, .int (nI t)), (2, .ref q), (3, .int (nI k)), (4, .int (nI (kPos ru (I (w + 3)) f len k)))] [] := by
    intro j
    induction j with
    | zero =>
      intro k hk
      have hk' : k = kCnt ru (I (w + 3)) f len := by omega
      have hp : kPos ru (I (w + 3)) f len k = len := by rw [hk']; exact kCnt_end
      have hzz : kFl I q (kPos ru (I (w + 3)) f len) k (w + 2) t = nI len := by rw [kFl_ne q2]; exact hz
      refine bl_Md_layCuts_5 s0 rfl s2 ⟨rfl, ht, by omega⟩ (fun _ => ?_) (fun h => absurd (by rw [hzz, hp]; exact nI_le (Nat.le_refl _) (by omega)) h)
      refine bl_Md_layCuts_39 s0 rfl s2 ⟨rfl, ht, by omega⟩ sq ⟨rfl, by omega, by omega⟩ ⟨rfl, rfl, ?_, ?_⟩
      · rw [hk']
      · rw [hzz, ← hk', ← kFl_up, hp]
    | succ j ih =>
      intro k hk
      have hlt := kCnt_lt (show k < kCnt ru (I (w + 3)) f len by omega)
      have hzz : kFl I q (kPos ru (I (w + 3)) f len) k (w + 2) t = nI len := by rw [kFl_ne q2]; exact hz
      refine bl_Md_layCuts_5 s0 rfl s2 ⟨rfl, ht, by omega⟩ (fun h => absurd h (by rw [hzz]; exact nI_ge hlt (by omega))) (fun _ => ?_)
      refine bp_Md_layCuts_16 (dc := 2) sq ⟨rfl, by omega, by omega⟩ s0 (by
        rw [kFl_up]
        exact c_Md_longFrom (by omega) hS ht (kTx_of hT (kFl_ne q1)) hl (by rw [kFl_ne q2]; exact hz) hlt (RuI_of hru (kFl_ne q0)) hok) (by omega) (fun v J hv => ?_)
      obtain ⟨rfl, rfl⟩ := hv
      refine bl_Md_layCuts_33 ?_
      rw [nI_1, nI_add, kFl_ne q3, ← kPos_step hlt]
      exact ih (k + 1) (by omega)
  have h0 := loop _ 0 (Nat.zero_add _)
  rw [kFl_0] at h0
  exact h0
theorem c_Row_end {d : Nat} {B : kv_B} {n : Nat} {S : kv_SM} {I : kv_IM} {r nb nk c : Nat} (hS : RowS S r nb nk) (hn : nk < 2 ^ 20) (hc : I r 5 = nI c) (hcn : c ≤ nk) : kv_P y_Row_end d B [.ref r] n S I (kQi (I (r + 2) c) I) := by
  refine kv_P.of (by decide +kernel) rfl (Nat.le_of_ble_eq_true rfl) ?_
  exact bl_Row_end_0 hS.1 rfl hS.2.2.1 ⟨hc, by omega, by omega⟩ (kQi_end rfl)
theorem c_Row_bytesOf {d : Nat} {B : kv_B} {n : Nat} {S : kv_SM} {I : kv_IM} {r nb nk k : Nat} (hS : RowS S r nb nk) (hn : nk < 2 ^ 20) (hk : k < nk) : kv_P y_Row_bytesOf d B [.ref r, .int (nI k)] n S I (kQi (I (r + 2) (k + 1) - I (r + 2) k) I) := by
  refine kv_P.of (by decide +kernel) rfl (Nat.le_of_ble_eq_true rfl) ?_
  exact bl_Row_bytesOf_0 hS.1 rfl hS.2.2.1 ⟨nI_1 k, by omega, by omega⟩ ⟨rfl, by omega, by omega⟩ (kQi_end rfl)
theorem c_Row_close {d : Nat} {B : kv_B} {n : Nat} {S : kv_SM} {I : kv_IM} {r nb nk c : Nat} (v : Int32) (hS : RowS S r nb nk) (hn : nk < 2 ^ 20) (hc : I r 5 = nI c) (hcn : c < nk) : kv_P y_Row_close d B [.ref r, .int v] n S I (kQv (kv_up (kv_up I (r + 2) (c + 1) v) r 5 (nI (c + 1)))) := by
  refine kv_P.of (by decide +kernel) rfl (Nat.le_of_ble_eq_true rfl) ?_
  refine bl_Row_close_0 hS.1 rfl hS.2.2.1 (j4 := c + 1) ⟨by rw [hc]; exact nI_1 c, by omega, by omega⟩ ⟨rfl, rfl, rfl, ?_⟩
  have e : kv_up I (r + 2) (c + 1) v r 5 = nI c := by
    unfold kv_up
    rw [if_neg (by omega)]
    exact hc
  rw [e, nI_1]
theorem c_Txt_forgetCuts {d : Nat} {B : kv_B} {n : Nat} {S : kv_SM} {I : kv_IM} {x : Nat} (hS : TxtS S x) : kv_P y_Txt_forgetCuts d B [.ref x] n S I (kQv (kv_up (kv_up I x 2 0) x 3 0)) := by
  refine kv_P.of (by decide +kernel) rfl (Nat.le_of_ble_eq_true rfl) ?_
  exact bl_Txt_forgetCuts_0 hS.1 ⟨rfl, rfl, rfl, rfl⟩
def kRw (I : kv_IM) (r : Nat) (p : Nat → Nat) (k : Nat) : kv_IM := fun a i => if a = r + 2 then (if i ≤ k then nI (p i) else I a i) else if a = r then (if i = 5 then nI k else I a i) else I a i
theorem kRw_ne {I : kv_IM} {r : Nat} {p : Nat → Nat} {k a : Nat} (h : a ≠ r + 2) (h2 : a ≠ r) : kRw I r p k a = I a := by
  funext i
  simp [kRw, h, h2]
theorem kRw_st {I : kv_IM} {r : Nat} {p : Nat → Nat} {k i : Nat} (h : i ≤ k) : kRw I r p k (r + 2) i = nI (p i) := by simp [kRw, h]
theorem kRw_c {I : kv_IM} {r : Nat} {p : Nat → Nat} {k : Nat} : kRw I r p k r 5 = nI k := by simp [kRw]
theorem kRw_0 {I : kv_IM} {r : Nat} {p : Nat → Nat} (h0 : I (r + 2) 0 = nI (p 0)) : kv_up I r 5 0 = kRw I r p 0 := by
  funext a i
  unfold kv_up kRw
  by_cases h1 : a = r
  · subst h1
    have hne : ¬ a = a + 2 := by omega
    by_cases h5 : i = 5
    · simp [h5, nI_0]
    · simp [h5]
  · rw [if_neg h1, if_neg h1]
    by_cases h2 : a = r + 2
    · subst h2
      rw [if_pos rfl]
      by_cases h3 : i ≤ 0
      · have : i = 0 := by omega
        subst this
        rw [if_pos (by omega)]
        exact h0
      · rw [if_neg h3]
    · rw [if_neg h2]
theorem kRw_up {I : kv_IM} {r : Nat} {p : Nat → Nat} {k : Nat} : kv_up (kv_up (kRw I r p k) (r + 2) (k + 1) (nI (p (k + 1)))) r 5 (nI (k + 1)) = kRw I r p (k + 1) := by
  funext a i
  unfold kv_up kRw
  by_cases h1 : a = r
  · subst h1
    have hne : ¬ a = a + 2 := by omega
    by_cases h5 : i = 5
    · simp [h5]
    · simp [h5]
  · rw [if_neg h1]
    by_cases h2 : a = r + 2
    · subst h2
      rw [if_pos rfl, if_pos rfl, if_pos rfl]
      by_cases h3 : i = k + 1
      · subst h3
        simp
      · rw [if_neg h3]
        by_cases h4 : i ≤ k
        · rw [if_pos h4, if_pos (by omega)]
        · rw [if_neg h4, if_neg (by omega)]
    · rw [if_neg h2, if_neg h2, if_neg h2, if_neg h1, if_neg h1]
theorem c_Txt_cutBy {d : Nat} {B : kv_B} {n : Nat} {S : kv_SM} {I : kv_IM} (hd : 3 ≤ d) {x g len : Nat} {f : Nat → Nat} {ru : Nat → Nat} (hS : TxtS S x) (hG : RulS S g) (hgx : g + 2 ≤ x) (hT : kTx I (x + 2) 0 f len) (hl : len ≤ 1500) (hz : I x 1 = nI len) (h0 : I (x + 3) 0 = 0) (hru : RuI I g 1 ru) (hok : RuOK ru) (hc : I x 2 = 0) :
    kv_P y_Txt_cutBy d B [.ref x, .ref g] n S I (kQv (kv_up (kRw I (x + 1) (kPos ru (I (g + 1)) f len) (kCnt ru (I (g + 1)) f len)) x 2 1)) := by
  obtain ⟨s0, hR⟩ := id hS
  obtain ⟨r0, r1, r2, -⟩ := id hR
  have hcl := kCnt_le (ru := ru) (tab := I (g + 1)) (f := f) (len := len)
  refine kv_P.of (by decide +kernel) rfl (Nat.le_of_ble_eq_true rfl) ?_
  refine bl_Txt_cutBy_0 s0 (fun _ => ?_) (fun h => absurd hc h)
  refine bl_Txt_cutBy_8 s0 rfl r0 ?_
  rw [kRw_0 (r := x + 1) (p := kPos ru (I (g + 1)) f len) h0]
  have loop : ∀ (j k : Nat), k + j = kCnt ru (I (g + 1)) f len → kv_V y_Txt_cutBy d B (kv_PQ n S (kQv (kv_up (kRw I (x + 1) (kPos ru (I (g + 1)) f len) (kCnt ru (I (g + 1)) f len)) x 2 1))) 0 0 n S (kRw I (x + 1) (kPos ru (I (g + 1)) f len) k) 18 [(0, .ref x), (1, .ref g), (2, .int (nI k))] [] := by
    intro j
    induction j with
    | zero =>
      intro k hk
      have hk' : k = kCnt ru (I (g + 1)) f len := by omega
      have hp : kPos ru (I (g + 1)) f len k = len := by rw [hk']; exact kCnt_end
      have hend : kv_V y_Txt_cutBy d B (kv_PQ n S (kQv (kv_up (kRw I (x + 1) (kPos ru (I (g + 1)) f len) (kCnt ru (I (g + 1)) f len)) x 2 1))) 0 0 n S (kRw I (x + 1) (kPos ru (I (g + 1)) f len) k) 74 [(0, .ref x), (1, .ref g), (2, .int (nI k))] [] := by
        rw [hk']
        exact bl_Txt_cutBy_74 s0 ⟨rfl, rfl, rfl, rfl⟩
      refine bl_Txt_cutBy_18 (fun _ => hend) (fun _ => ?_)
      refine bp_Txt_cutBy_25 (dc := 0) s0 rfl r0 (c_Row_end hR (by omega) kRw_c (by omega)) (by omega) (fun v J hv => ?_)
      obtain ⟨rfl, rfl⟩ := hv
      refine bl_Txt_cutBy_32 s0 (fun _ => hend) (fun h => absurd ?_ h)
      rw [kRw_ne (by omega) (by omega), hz, kRw_st (Nat.le_refl _), hp]
      exact nI_le (Nat.le_refl _) (by omega)
    | succ j ih =>
      intro k hk
      have hlt := kCnt_lt (show k < kCnt ru (I (g + 1)) f len by omega)
      refine bl_Txt_cutBy_18 (fun h => absurd h ?_) (fun _ => ?_)
      · exact nI_ge (b := 1500) (by omega) (by omega)
      refine bp_Txt_cutBy_25 (dc := 0) s0 rfl r0 (c_Row_end hR (by omega) kRw_c (by omega)) (by omega) (fun v J hv => ?_)
      obtain ⟨rfl, rfl⟩ := hv
      refine bl_Txt_cutBy_32 s0 (fun h => absurd h ?_) (fun _ => ?_)
      · rw [kRw_ne (by omega) (by omega), hz, kRw_st (Nat.le_refl _)]
        exact nI_ge hlt (by omega)
      refine bp_Txt_cutBy_39 (dc := 0) s0 rfl r0 rfl (c_Row_end hR (by omega) kRw_c (by omega)) (by omega) (fun v J hv => ?_)
      obtain ⟨rfl, rfl⟩ := hv
      refine bp_Txt_cutBy_58 (dc := 2) s0 hG.1 (by
        rw [kRw_ne (a := x) (by omega) (by omega), hz, kRw_st (Nat.le_refl _)]
        exact c_Rul_endOfBlock (by omega) hG r1 (by omega) (kTx_of hT (kRw_ne (by omega) (by omega))) hl hlt (RuI_of hru (kRw_ne (by omega) (by omega))) hok) (by omega) (fun v J hv => ?_)
      obtain ⟨rfl, rfl⟩ := hv
      refine bp_Txt_cutBy_65 (dc := 0) r0 (c_Row_close _ hR (by omega) kRw_c (by omega)) (by omega) (fun v J hv => ?_)
      obtain ⟨rfl, rfl⟩ := hv
      rw [kRw_ne (a := g + 1) (by omega) (by omega), ← kPos_step hlt, kRw_up]
      refine bl_Txt_cutBy_68 ?_
      rw [nI_1]
      exact ih (k + 1) (by omega)
  exact loop _ 0 (Nat.zero_add _)
theorem c_Txt_cutBy' {d : Nat} {B : kv_B} {n : Nat} {S : kv_SM} {I : kv_IM} {x g : Nat} (hS : TxtS S x) (hc : ¬ I x 2 = 0) : kv_P y_Txt_cutBy d B [.ref x, .ref g] n S I (kQv I) := by
  refine kv_P.of (by decide +kernel) rfl (Nat.le_of_ble_eq_true rfl) ?_
  exact bl_Txt_cutBy_0 hS.1 (fun h => absurd h hc) (fun _ => bl_Txt_cutBy_7 ⟨rfl, rfl, rfl, rfl⟩)
