def kSec (st oth : Nat) : Int32 := if oth = 0 then -1 else nI (st + oth)
theorem kSec_ne {st oth : Nat} (h : st + oth < 2 ^ 30) (ho : oth ≠ 0) : ¬ kSec st oth = -1 := by
  unfold kSec
  rw [if_neg ho]
  intro q
  have h1 := congrArg Int32.toInt q
  rw [nI_toInt (by omega)] at h1
  have h2 : (-1 : Int32).toInt = -1 := by decide
  omega
theorem c_Rul_endOfBlock {d : Nat} {B : kv_B} {n : Nat} {S : kv_SM} {I : kv_IM} (hd : 2 ≤ d) {r a mb len st : Nat} {f : Nat → Nat} {ru : Nat → Nat} (hS : RulS S r) (ha : S a = kI mb) (hmb : mb < 2 ^ 20) (hT : kTx I a 0 f len) (hl : len ≤ mb) (hst : st < len) (hru : RuI I r 1 ru) (hok : RuOK ru) :
    kv_P y_Rul_endOfBlock d B [.ref r, .ref a, .int (nI st), .int (nI len)] n S I (kQi (nI (st + kLen ru (I (r + 1)) f st len)) I) := by
  obtain ⟨o0, o1, o2, o3, o4, o5, o6, o7, o8, o9, o10⟩ := id hok
  have e0 : I r 1 = nI (ru 0) := hru 0 (by omega)
  have e2 : I r 3 = nI (ru 2) := hru 2 (by omega)
  have e3 : I r 4 = nI (ru 3) := hru 3 (by omega)
  have e4 : I r 5 = nI (ru 4) := hru 4 (by omega)
  have e5 : I r 6 = nI (ru 5) := hru 5 (by omega)
  refine kv_P.of (by decide +kernel) rfl (Nat.le_of_ble_eq_true rfl) ?_
  refine bl_Rul_endOfBlock_0 ?_
  have loop : ∀ (k j : Nat) (h : Int32) (oth : Nat), 1 ≤ j → st + j ≤ len + 1 → len + 1 ≤ st + j + k → oth < j → kv_V y_Rul_endOfBlock d B (kv_PQ n S (kQi (nI (st + kCut ru (I (r + 1)) f st len k j h oth)) I)) 0 0 n S I 9 [(0, .ref r), (1, .ref a), (2, .int (nI st)), (3, .int (nI len)), (4, .int h), (5, .int (kSec st oth)), (6, .int (nI (st + j - 1)))] [] := by
    intro k
    induction k with
    | zero =>
      intro j h oth h1 h2 h3 h4
      refine bl_Rul_endOfBlock_9 (fun _ => ?_) (fun q => absurd (nI_le (by omega) (by omega)) q)
      refine bl_Rul_endOfBlock_133 (kQi_end ?_)
      show nI len = nI (st + (len - st))
      congr 1; omega
    | succ k ih =>
      intro j h oth h1 h2 h3 h4
      by_cases hj : st + j ≤ len
      · refine bl_Rul_endOfBlock_9 (fun q => absurd q (nI_ge (by omega) (by omega))) (fun _ => ?_)
        refine bp_Rul_endOfBlock_15 (dc := 1) hS.1 (c_Rul_numberWith (by omega) h hS ha (by omega) hT hl h1 hj e0 o0) (by omega) (fun v J hv => ?_)
        obtain ⟨rfl, rfl⟩ := hv
        have hsub : nI (st + j - 1) - nI st + 1 = nI j := by
          rw [pk_sub (by omega), nI_1]; congr 1; omega
        have hinc : nI (st + j - 1) + 1 = nI (st + (j + 1) - 1) := by rw [nI_1]; congr 1; omega
        have hinc2 : nI (st + j - 1) + 1 = nI (st + j) := by rw [nI_1]; congr 1; omega
        refine bp_Rul_endOfBlock_25 (dc := 0) hS.1 (by rw [hsub]; exact c_Rul_allowed hS hru hok (by omega)) (by omega) (fun v J hv => ?_)
        obtain ⟨rfl, rfl⟩ := hv
        rw [hsub]
        refine bl_Rul_endOfBlock_41 (fun ht => ?_) (fun ht => ?_)
        · have hal : kAl ru j := Classical.not_not.mp (fun q => ht (kB_e0.mpr q))
          refine bp_Rul_endOfBlock_47 (dc := 0) hS.1 (c_Rul_marksAt hS hru hok (by omega)) (by omega) (fun v J hv => ?_)
          obtain ⟨rfl, rfl⟩ := hv
          refine bp_Rul_endOfBlock_55 (dc := 0) (c_Rul_marked _ (kWt_le hok j)) (by omega) (fun v J hv => ?_)
          obtain ⟨rfl, rfl⟩ := hv
          refine bl_Rul_endOfBlock_58 (fun hm => ?_) (fun hm => ?_)
          · have hm' := kB_e0.mp hm
            refine bl_Rul_endOfBlock_66 hS.1 (fun hg => ?_) (fun hg => ?_)
            · rw [e2, e5, nI_add, nI_leI (by omega) (by omega)] at hg
              have key : kCut ru (I (r + 1)) f st len (k + 1) j h oth = kCut ru (I (r + 1)) f st len k (j + 1) (kNx (ru 0) (I (r + 1)) f st j h) (if ru 0 = 2 ∧ kMk (kNx (ru 0) (I (r + 1)) f st j h) (ru 3 - ru 4) then j else oth) := by
                rw [kCut, if_pos hj, if_pos hal, if_neg hm', if_neg (by omega)]
              rw [key]
              refine bl_Rul_endOfBlock_96 hS.1 (fun hmo => ?_) (fun hmo => ?_)
              · have hmo' : ¬ ru 0 = 2 := fun q => hmo (by rw [e0, q]; rfl)
                refine bl_Rul_endOfBlock_127 ?_
                rw [if_neg (fun q => hmo' q.1), hinc]
                exact ih (j + 1) _ oth (by omega) (by omega) (by omega) (by omega)
              · have hmo' : ru 0 = 2 := by
                  rw [e0] at hmo
                  exact (nI_eq (by omega) (by omega : 2 < 2 ^ 31)).mp hmo
                refine bp_Rul_endOfBlock_104 (dc := 0) hS.1 (by rw [e3, e4, pk_sub o7]; exact c_Rul_marked _ (by omega)) (by omega) (fun v J hv => ?_)
                obtain ⟨rfl, rfl⟩ := hv
                refine bl_Rul_endOfBlock_118 (fun hx => ?_) (fun hx => ?_)
                · have hx' := kB_e0.mp hx
                  refine bl_Rul_endOfBlock_127 ?_
                  rw [if_neg (fun q => hx' q.2), hinc]
                  exact ih (j + 1) _ oth (by omega) (by omega) (by omega) (by omega)
                · have hx' := Classical.not_not.mp (fun q => hx (kB_e0.mpr q))
                  refine bl_Rul_endOfBlock_121 (bl_Rul_endOfBlock_127 ?_)
                  rw [if_pos ⟨hmo', hx'⟩, hinc]
                  have h9 := ih (j + 1) (kNx (ru 0) (I (r + 1)) f st j h) j (by omega) (by omega) (by omega) (by omega)
                  have hs9 : kSec st j = nI (st + (j + 1) - 1) := by
                    unfold kSec
                    rw [if_neg (by omega)]
                    rfl
                  rw [hs9] at h9
                  exact h9
            · rw [e2, e5, nI_add, nI_leI (by omega) (by omega)] at hg
              have key : kCut ru (I (r + 1)) f st len (k + 1) j h oth = if 0 < oth then oth else j := by
                rw [kCut, if_pos hj, if_pos hal, if_neg hm', if_pos (by omega)]
              rw [key]
              refine bl_Rul_endOfBlock_80 (fun hs => ?_) (fun hs => ?_)
              · have ho : oth ≠ 0 := fun q => hs (by rw [q]; rfl)
                refine bl_Rul_endOfBlock_93 (bl_Rul_endOfBlock_95 (kQi_end ?_))
                rw [if_pos (by omega)]
                unfold kSec
                rw [if_neg ho]
              · have ho : oth = 0 := Classical.not_not.mp (fun q => kSec_ne (by omega) q hs)
                refine bl_Rul_endOfBlock_86 (bl_Rul_endOfBlock_95 (kQi_end ?_))
                rw [if_neg (by omega), hinc2]
          · have hm' := Classical.not_not.mp (fun q => hm (kB_e0.mpr q))
            refine bl_Rul_endOfBlock_61 (kQi_end ?_)
            rw [kCut, if_pos hj, if_pos hal, if_pos hm', hinc2]
        · have hal := kB_e0.mp ht
          refine bl_Rul_endOfBlock_44 (bl_Rul_endOfBlock_127 ?_)
          have key : kCut ru (I (r + 1)) f st len (k + 1) j h oth = kCut ru (I (r + 1)) f st len k (j + 1) (kNx (ru 0) (I (r + 1)) f st j h) oth := by
            rw [kCut, if_pos hj, if_neg hal]
          rw [key, hinc]
          exact ih (j + 1) _ oth (by omega) (by omega) (by omega) (by omega)
      · refine bl_Rul_endOfBlock_9 (fun _ => ?_) (fun q => absurd (nI_le (by omega) (by omega)) q)
        refine bl_Rul_endOfBlock_133 (kQi_end ?_)
        rw [kCut, if_neg hj]
        congr 1; omega
  exact loop (len - st + 1) 1 0 0 (by omega) (by omega) (by omega) (by omega)
theorem c_Md_longFrom {d : Nat} {B : kv_B} {n : Nat} {S : kv_SM} {I : kv_IM} (hd : 2 ≤ d) {w t len st : Nat} {f : Nat → Nat} {ru : Nat → Nat} (hS : MdS S w) (ht : t < 4) (hT : kTx I (w + 1) (1500 * t) f len) (hl : len ≤ 1500) (hz : I (w + 2) t = nI len) (hst : st < len) (hru : RuI I w 4 ru) (hok : RuOK ru) :
    kv_P y_Md_longFrom d B [.ref w, .int (nI t), .int (nI st)] n S I (kQi (nI (kLen ru (I (w + 3)) f st len)) I) := by
  obtain ⟨o0, o1, o2, o3, o4, o5, o6, o7, o8, o9, o10⟩ := id hok
  obtain ⟨s0, s1, s2, -⟩ := id hS
  have e0 : I w 4 = nI (ru 0) := hru 0 (by omega)
  have e1 : I w 5 = nI (ru 1) := hru 1 (by omega)
  have e2 : I w 6 = nI (ru 2) := hru 2 (by omega)
  have e3 : I w 7 = nI (ru 3) := hru 3 (by omega)
  have e4 : I w 8 = nI (ru 4) := hru 4 (by omega)
  have e5 : I w 9 = nI (ru 5) := hru 5 (by omega)
  have hp3 : (2 : Nat) ^ ru 3 ≤ 2 ^ 9 := Nat.pow_le_pow_right (by omega) o6
  refine kv_P.of (by decide +kernel) rfl (Nat.le_of_ble_eq_true rfl) ?_
  refine bl_Md_longFrom_0 ?_
  have loop : ∀ (k j : Nat) (h : Int32) (oth : Nat), 1 ≤ j → st + j ≤ len + 1 → len + 1 ≤ st + j + k → oth < j → (oth ≠ 0 → ru 0 = 2) → kv_V y_Md_longFrom d B (kv_PQ n S (kQi (nI (kCut ru (I (w + 3)) f st len k j h oth)) I)) 0 0 n S I 8 [(0, .ref w), (1, .int (nI t)), (2, .int (nI st)), (3, .int h), (4, .int (nI oth)), (5, .int (nI j))] [] := by
    intro k
    induction k with
    | zero =>
      intro j h oth h1 h2 h3 h4 h5
      refine bl_Md_longFrom_8 s0 rfl s2 ⟨rfl, ht, by omega⟩ (fun _ => ?_) (fun q => absurd (by rw [hz, nI_add]; exact nI_lt (by omega) (by omega)) q)
      refine bl_Md_longFrom_200 s0 rfl s2 ⟨rfl, ht, by omega⟩ (kQi_end ?_)
      rw [hz, pk_sub (by omega)]
      rfl
    | succ k ih =>
      intro j h oth h1 h2 h3 h4 h5
      by_cases hj : st + j ≤ len
      · refine bl_Md_longFrom_8 s0 rfl s2 ⟨rfl, ht, by omega⟩ (fun q => absurd q (by rw [hz, nI_add]; exact nI_nlt (by omega) (by omega))) (fun _ => ?_)
        refine bp_Md_longFrom_21 (dc := 1) s0 (c_Md_next (by omega) h hS ht hT hl h1 hj e0 o0) (by omega) (fun v J hv => ?_)
        obtain ⟨rfl, rfl⟩ := hv
        have step : ∀ (h' : Int32) (oth' : Nat), oth' < j + 1 → (oth' ≠ 0 → ru 0 = 2) → kCut ru (I (w + 3)) f st len (k + 1) j h oth = kCut ru (I (w + 3)) f st len k (j + 1) h' oth' → kv_V y_Md_longFrom d B (kv_PQ n S (kQi (nI (kCut ru (I (w + 3)) f st len (k + 1) j h oth)) I)) 0 0 n S I 194 [(0, .ref w), (1, .int (nI t)), (2, .int (nI st)), (3, .int h'), (4, .int (nI oth')), (5, .int (nI j))] [] := by
          intro h' oth' g1 g2 g3
          refine bl_Md_longFrom_194 ?_
          rw [g3, nI_1]
          exact ih (j + 1) h' oth' (by omega) (by omega) (by omega) g1 g2
        refine bl_Md_longFrom_30 s0 (fun hlt => ?_) (fun hlt => ?_)
        · rw [e1, nI_ltI (by omega) (by omega)] at hlt
          refine step _ oth (by omega) h5 ?_
          rw [kCut, if_pos hj, if_neg (fun q => by omega)]
        · rw [e1, nI_ltI (by omega) (by omega)] at hlt
          refine bl_Md_longFrom_40 s0 (by rw [e5]; exact nI_ne0 (by omega) (by omega)) (fun hr => ?_) (fun hr => ?_)
          · rw [e5, z_rem (by omega) (by omega) (by omega)] at hr
            have hal : kAl ru j := ⟨by omega, hr⟩
            have last : ∀ (la : Int32), (la = 0 → j + ru 5 ≤ ru 2) → (¬ la = 0 → ru 2 < j + ru 5) → kv_V y_Md_longFrom d B (kv_PQ n S (kQi (nI (kCut ru (I (w + 3)) f st len (k + 1) j h oth)) I)) 0 0 n S I 72 [(0, .ref w), (1, .int (nI t)), (2, .int (nI st)), (3, .int (kNx (ru 0) (I (w + 3)) f st j h)), (4, .int (nI oth)), (5, .int (nI j))] [.int la] := by
              intro la hla0 hla1
              have main : kv_V y_Md_longFrom d B (kv_PQ n S (kQi (nI (kCut ru (I (w + 3)) f st len (k + 1) j h oth)) I)) 0 0 n S I 121 [(0, .ref w), (1, .int (nI t)), (2, .int (nI st)), (3, .int (kNx (ru 0) (I (w + 3)) f st j h)), (4, .int (nI oth)), (5, .int (nI j)), (6, .int la)] [.int (nI (kWt ru j))] := by
                refine bp_Md_longFrom_121 (dc := 0) (c_Md_isMarked _ (kWt_le hok j)) (by omega) (fun v J hv => ?_)
                obtain ⟨rfl, rfl⟩ := hv
                refine bl_Md_longFrom_129 (fun hm => ?_) (fun hm => ?_)
                · have hm' := kB_e0.mp hm
                  refine bl_Md_longFrom_135 (fun h0 => ?_) (fun h0 => ?_)
                  · have hg := hla0 h0
                    have key : ∀ o', o' = (if ru 0 = 2 ∧ kMk (kNx (ru 0) (I (w + 3)) f st j h) (ru 3 - ru 4) then j else oth) → kCut ru (I (w + 3)) f st len (k + 1) j h oth = kCut ru (I (w + 3)) f st len k (j + 1) (kNx (ru 0) (I (w + 3)) f st j h) o' := by
                      rintro o' rfl
                      rw [kCut, if_pos hj, if_pos hal, if_neg hm', if_neg (by omega)]
                    refine bl_Md_longFrom_161 s0 (fun hmo => ?_) (fun hmo => ?_)
                    · have hmo' : ¬ ru 0 = 2 := fun q => hmo (by rw [e0, q]; rfl)
                      refine bl_Md_longFrom_190 (bl_Md_longFrom_192 (step _ oth (by omega) h5 (key oth ?_)))
                      rw [if_neg (fun q => hmo' q.1)]
                    · have hmo' : ru 0 = 2 := by
                        rw [e0] at hmo
                        exact (nI_eq (by omega) (by omega : 2 < 2 ^ 31)).mp hmo
                      refine bp_Md_longFrom_169 (dc := 0) s0 (by rw [e3, e4, pk_sub o7]; exact c_Md_isMarked _ (by omega)) (by omega) (fun v J hv => ?_)
                      obtain ⟨rfl, rfl⟩ := hv
                      refine bl_Md_longFrom_182 (fun hx => ?_) (fun hx => ?_)
                      · have hx' := kB_e0.mp hx
                        refine bl_Md_longFrom_190 (bl_Md_longFrom_192 (step _ oth (by omega) h5 (key oth ?_)))
                        rw [if_neg (fun q => hx' q.2)]
                      · have hx' := Classical.not_not.mp (fun q => hx (kB_e0.mpr q))
                        refine bl_Md_longFrom_185 (bl_Md_longFrom_192 (step _ j (by omega) (fun _ => hmo') (key j ?_)))
                        rw [if_pos ⟨hmo', hx'⟩]
                  · have hg := hla1 h0
                    have key : kCut ru (I (w + 3)) f st len (k + 1) j h oth = if 0 < oth then oth else j := by
                      rw [kCut, if_pos hj, if_pos hal, if_neg hm', if_pos hg]
                    rw [key]
                    refine bl_Md_longFrom_140 s0 (fun hmo => ?_) (fun hmo => ?_)
                    · have hmo' : ¬ ru 0 = 2 := fun q => hmo (by rw [e0, q]; rfl)
                      have ho : oth = 0 := Classical.not_not.mp (fun q => hmo' (h5 q))
                      refine bl_Md_longFrom_158 (bl_Md_longFrom_160 (kQi_end ?_))
                      rw [if_neg (by omega)]
                    · refine bl_Md_longFrom_148 (fun h0 => ?_) (fun h0 => ?_)
                      · rw [show (0 : Int32) = nI 0 from rfl, nI_leI (by omega) (by omega)] at h0
                        refine bl_Md_longFrom_158 (bl_Md_longFrom_160 (kQi_end ?_))
                        rw [if_neg (by omega)]
                      · rw [show (0 : Int32) = nI 0 from rfl, nI_leI (by omega) (by omega)] at h0
                        refine bl_Md_longFrom_153 (bl_Md_longFrom_160 (kQi_end ?_))
                        rw [if_pos (by omega)]
                · have hm' := Classical.not_not.mp (fun q => hm (kB_e0.mpr q))
                  refine bl_Md_longFrom_132 (kQi_end ?_)
                  rw [kCut, if_pos hj, if_pos hal, if_pos hm']
              refine bl_Md_longFrom_72 s0 (fun hmo => ?_) (fun hmo => ?_)
              · have hmo' : ru 0 = 1 := by
                  rw [e0] at hmo
                  exact (nI_eq (by omega) (by omega : 1 < 2 ^ 31)).mp hmo
                refine bl_Md_longFrom_89 s0 (fun hq => ?_) (fun hq => ?_)
                · rw [e3, z_shl1 o6, nI_leI (by omega) (by omega)] at hq
                  refine bl_Md_longFrom_112 s0 ?_
                  have hw : kWt ru j = ru 3 - ru 4 := by
                    unfold kWt
                    rw [if_pos hmo', if_neg (by omega)]
                  rw [hw] at main
                  rw [e3, e4, pk_sub o7]
                  exact main
                · rw [e3, z_shl1 o6, nI_leI (by omega) (by omega)] at hq
                  refine bl_Md_longFrom_100 s0 ?_
                  have hw : kWt ru j = ru 3 + ru 4 := by
                    unfold kWt
                    rw [if_pos hmo', if_pos (by omega)]
                  rw [hw] at main
                  rw [e3, e4, nI_add]
                  exact main
              · have hmo' : ¬ ru 0 = 1 := fun q => hmo (by rw [e0, q]; rfl)
                refine bl_Md_longFrom_82 s0 ?_
                have hw : kWt ru j = ru 3 := by
                  unfold kWt
                  rw [if_neg hmo']
                rw [hw] at main
                rw [e3]
                exact main
            refine bl_Md_longFrom_53 s0 (fun hg => ?_) (fun hg => ?_)
            · rw [e5, e2, nI_add, nI_leI (by omega) (by omega)] at hg
              exact bl_Md_longFrom_71 (last 0 (fun _ => hg) (fun q => absurd rfl q))
            · rw [e5, e2, nI_add, nI_leI (by omega) (by omega)] at hg
              exact bl_Md_longFrom_67 (last 1 (fun q => by cases q) (fun _ => by omega))
          · rw [e5, z_rem (by omega) (by omega) (by omega)] at hr
            refine bl_Md_longFrom_50 (step _ oth (by omega) h5 ?_)
            rw [kCut, if_pos hj, if_neg (fun q => hr q.2)]
      · refine bl_Md_longFrom_8 s0 rfl s2 ⟨rfl, ht, by omega⟩ (fun _ => ?_) (fun q => absurd (by rw [hz, nI_add]; exact nI_lt (by omega) (by omega)) q)
        refine bl_Md_longFrom_200 s0 rfl s2 ⟨rfl, ht, by omega⟩ (kQi_end ?_)
        rw [hz, pk_sub (by omega), kCut, if_neg hj]
  exact loop (len - st + 1) 1 0 0 (by omega) (by omega) (by omega) (by omega) (fun q => absurd rfl q)
