def mdR (w : Nat) : Nat → Option Nat := fun k => match k with
  | 1 => some (w + 1)
  | 2 => some (w + 2)
  | 3 => some (w + 3)
  | 10 => some (w + 4)
  | 12 => some (w + 5)
  | 14 => some (w + 6)
  | 17 => some (w + 7)
  | 18 => some (w + 8)
  | 19 => some (w + 9)
  | 20 => some (w + 10)
  | 21 => some (w + 11)
  | 22 => some (w + 12)
  | 23 => some (w + 13)
  | _ => none
def MdS (S : kv_SM) (w : Nat) : Prop := S w = kO 6 (mdR w) ∧ S (w + 1) = kI 6000 ∧ S (w + 2) = kI 4 ∧ S (w + 3) = kI 256 ∧ S (w + 4) = kI 1501 ∧ S (w + 5) = kI 1501 ∧ S (w + 6) = kI 6000 ∧ S (w + 7) = kI 301 ∧ S (w + 8) = kI 301 ∧ S (w + 9) = kI 301 ∧ S (w + 10) = kZ 10 ∧ S (w + 11) = kI 10 ∧ S (w + 12) = kI 15000 ∧ S (w + 13) = kI 256
def rowR (r : Nat) : Nat → Option Nat := fun k => match k with
  | 0 => some (r + 1)
  | 1 => some (r + 2)
  | 2 => some (r + 3)
  | 3 => some (r + 5)
  | 4 => some (r + 4)
  | _ => none
def RowS (S : kv_SM) (r nb nk : Nat) : Prop := S r = kO 0 (rowR r) ∧ S (r + 1) = kI nb ∧ S (r + 2) = kI (nk + 1) ∧ S (r + 3) = kI nk ∧ S (r + 4) = kI nk ∧ S (r + 5) = kI 256
def oneR (r : Nat) : Nat → Option Nat := fun k => match k with
  | 0 => some (r + 1)
  | _ => none
def RulS (S : kv_SM) (r : Nat) : Prop := S r = kO 1 (oneR r) ∧ S (r + 1) = kI 256
def SnpS (S : kv_SM) (r : Nat) : Prop := S r = kO 2 (oneR r) ∧ S (r + 1) = kI 1500
def TxtS (S : kv_SM) (r : Nat) : Prop := S r = kO 4 (oneR r) ∧ RowS S (r + 1) 1500 1500
def stoR (r : Nat) : Nat → Option Nat := fun k => match k with
  | 0 => some (r + 1)
  | 1 => some (r + 7)
  | 2 => some (r + 8)
  | 3 => some (r + 9)
  | _ => none
def snpA (r : Nat) : Nat → Option Nat := fun k => if k < 10 then some (r + 10 + 2 * k) else none
def StoS (S : kv_SM) (r : Nat) : Prop := S r = kO 3 (stoR r) ∧ RowS S (r + 1) 6000 300 ∧ S (r + 7) = kI 300 ∧ S (r + 8) = kI 300 ∧ S (r + 9) = kA 2 10 (snpA r) ∧ ∀ s, s < 10 → SnpS S (r + 10 + 2 * s)
def cbR (o : Nat) : Nat → Option Nat := fun k => match k with
  | 0 => some (o + 1)
  | 1 => some (o + 3)
  | 2 => some (o + 32)
  | _ => none
def txtA (o : Nat) : Nat → Option Nat := fun k => if k < 4 then some (o + 4 + 7 * k) else none
def CbS (S : kv_SM) (o : Nat) : Prop := S o = kO 5 (cbR o) ∧ RulS S (o + 1) ∧ S (o + 3) = kA 4 4 (txtA o) ∧ (∀ t, t < 4 → TxtS S (o + 4 + 7 * t)) ∧ StoS S (o + 32)
def kRot (x k : Int32) : Int32 := (x <<< (k &&& 31)) ||| ((Int32.toUInt32 x >>> (Int32.toUInt32 (32 - k) &&& Int32.toUInt32 31)).toInt32)
def kNx (m : Nat) (tab : Nat → Int32) (f : Nat → Nat) (st n : Nat) (h : Int32) : Int32 :=
  if m = 3 then (if n ≤ 16 then kRot h 1 ^^^ tab (f (st + n - 1)) else (kRot h 1 ^^^ tab (f (st + n - 1))) ^^^ kRot (tab (f (st + n - 17))) 16) else (h <<< (1 &&& 31)) + tab (f (st + n - 1))
def kTx (I : kv_IM) (a off : Nat) (f : Nat → Nat) (len : Nat) : Prop := ∀ i, i < len → I a (off + i) = nI (f i) ∧ f i < 256
theorem c_Rul_turnedLeft {d : Nat} {B : kv_B} {n : Nat} {S : kv_SM} {I : kv_IM} (x k : Int32) : kv_P y_Rul_turnedLeft d B [.int x, .int k] n S I (kQi (kRot x k) I) := by
  refine kv_P.of (by decide +kernel) rfl (Nat.le_of_ble_eq_true rfl) ?_
  exact bl_Rul_turnedLeft_0 (kQi_end rfl)
theorem c_Md_turn {d : Nat} {B : kv_B} {n : Nat} {S : kv_SM} {I : kv_IM} (x k : Int32) : kv_P y_Md_turn d B [.int x, .int k] n S I (kQi (kRot x k) I) := by
  refine kv_P.of (by decide +kernel) rfl (Nat.le_of_ble_eq_true rfl) ?_
  exact bl_Md_turn_0 (kQi_end rfl)
theorem nI_ne {a b : Nat} (ha : a < 2 ^ 31) (hb : b < 2 ^ 31) (h : a ≠ b) : ¬ nI a = nI b := fun q => h ((nI_eq ha hb).mp q)
theorem c_Rul_numberWith {d : Nat} {B : kv_B} {n : Nat} {S : kv_SM} {I : kv_IM} (hd : 1 ≤ d) {r a mb len st k m : Nat} {f : Nat → Nat} (h : Int32) (hS : RulS S r) (ha : S a = kI mb) (hmb : mb < 2 ^ 30) (hT : kTx I a 0 f len) (hl : len ≤ mb) (hk : 1 ≤ k) (hkl : st + k ≤ len) (hm : I r 1 = nI m) (hm3 : m ≤ 3) :
    kv_P y_Rul_numberWith d B [.ref r, .int h, .ref a, .int (nI st), .int (nI (st + k - 1))] n S I (kQi (kNx m (I (r + 1)) f st k h) I) := by
  refine kv_P.of (by decide +kernel) rfl (Nat.le_of_ble_eq_true rfl) ?_
  have t1 := hT (st + k - 1) (by omega)
  rw [Nat.zero_add] at t1
  refine bl_Rul_numberWith_0 hS.1 rfl ha ⟨rfl, by omega, by omega⟩ hS.2 ⟨t1.1, t1.2, by omega⟩ (fun h3 => ?_) (fun h3 => ?_)
  · have hm3' : m = 3 := by
      rw [hm] at h3
      exact (nI_eq (by omega) (by omega : 3 < 2 ^ 31)).mp h3
    refine bp_Rul_numberWith_26 (dc := 0) (c_Rul_turnedLeft h 1) hd (fun v J hv => ?_)
    obtain ⟨rfl, rfl⟩ := hv
    have hsub : nI (st + k - 1) - nI st = nI (k - 1) := by rw [pk_sub (by omega)]; congr 1; omega
    refine bl_Rul_numberWith_31 (fun h16 => ?_) (fun h16 => ?_)
    · rw [hsub] at h16
      have hk16 : 16 ≤ k - 1 := (nI_leI (by omega : 16 < 2 ^ 31) (by omega)).mp h16
      have t2 := hT (st + k - 17) (by omega)
      rw [Nat.zero_add] at t2
      refine bp_Rul_numberWith_48 (dc := 0) hS.1 rfl ha (j4 := st + k - 17) ⟨?_, by omega, by omega⟩ hS.2 ⟨t2.1, t2.2, by omega⟩ (c_Rul_turnedLeft _ 16) hd (fun v J hv => ?_)
      · show nI (st + k - 1) - nI 16 = _
        rw [pk_sub (by omega)]
        exact congrArg nI (by omega)
      · obtain ⟨rfl, rfl⟩ := hv
        refine bl_Rul_numberWith_67 (kQi_end ?_)
        unfold kNx
        rw [if_pos hm3', if_neg (by omega)]
    · rw [hsub] at h16
      have hk16 : ¬ 16 ≤ k - 1 := fun q => h16 ((nI_leI (by omega : 16 < 2 ^ 31) (by omega)).mpr q)
      refine bl_Rul_numberWith_45 (kQi_end ?_)
      unfold kNx
      rw [if_pos hm3', if_pos (by omega)]
  · have hm3' : ¬ m = 3 := fun q => h3 (by rw [hm, q]; rfl)
    refine bl_Rul_numberWith_19 (kQi_end ?_)
    unfold kNx
    rw [if_neg hm3']
theorem c_Md_next {d : Nat} {B : kv_B} {n : Nat} {S : kv_SM} {I : kv_IM} (hd : 1 ≤ d) {w t len st k m : Nat} {f : Nat → Nat} (h : Int32) (hS : MdS S w) (ht : t < 4) (hT : kTx I (w + 1) (1500 * t) f len) (hl : len ≤ 1500) (hk : 1 ≤ k) (hkl : st + k ≤ len) (hm : I w 4 = nI m) (hm3 : m ≤ 3) :
    kv_P y_Md_next d B [.ref w, .int h, .int (nI t), .int (nI st), .int (nI k)] n S I (kQi (kNx m (I (w + 3)) f st k h) I) := by
  refine kv_P.of (by decide +kernel) rfl (Nat.le_of_ble_eq_true rfl) ?_
  have t1 := hT (st + k - 1) (by omega)
  obtain ⟨s0, s1, s2, s3, -⟩ := hS
  refine bl_Md_next_0 s0 rfl rfl s1 (j5 := 1500 * t + (st + k - 1)) ⟨?_, by omega, by omega⟩ s3 ⟨t1.1, t1.2, by omega⟩ (fun h3 => ?_) (fun h3 => ?_)
  · show nI 1500 * nI t + nI st + nI k - nI 1 = _
    rw [pk_mul, nI_add, nI_add, pk_sub (by omega)]; congr 1; omega
  · have hm3' : m = 3 := by
      rw [hm] at h3
      exact (nI_eq (by omega) (by omega : 3 < 2 ^ 31)).mp h3
    refine bp_Md_next_39 (dc := 0) (c_Md_turn h 1) hd (fun v J hv => ?_)
    obtain ⟨rfl, rfl⟩ := hv
    refine bl_Md_next_44 (fun h16 => ?_) (fun h16 => ?_)
    · have hk16 : k ≤ 16 := (nI_leI (by omega) (by omega : 16 < 2 ^ 31)).mp h16
      refine bl_Md_next_90 (bl_Md_next_92 (kQi_end ?_))
      unfold kNx
      rw [if_pos hm3', if_pos hk16]
    · have hk16 : ¬ k ≤ 16 := fun q => h16 ((nI_leI (by omega) (by omega : 16 < 2 ^ 31)).mpr q)
      have t2 := hT (st + k - 17) (by omega)
      refine bp_Md_next_56 (dc := 0) s0 rfl rfl s1 (j5 := 1500 * t + (st + k - 17)) ⟨?_, by omega, by omega⟩ s3 ⟨t2.1, t2.2, by omega⟩ (c_Md_turn _ 16) hd (fun v J hv => ?_)
      · show nI 1500 * nI t + nI st + nI k - nI 17 = _
        rw [pk_mul, nI_add, nI_add, pk_sub (by omega)]; congr 1; omega
      · obtain ⟨rfl, rfl⟩ := hv
        refine bl_Md_next_86 (bl_Md_next_92 (kQi_end ?_))
        unfold kNx
        rw [if_pos hm3', if_neg hk16]
  · have hm3' : ¬ m = 3 := fun q => h3 (by rw [hm, q]; rfl)
    refine bl_Md_next_32 (kQi_end ?_)
    unfold kNx
    rw [if_neg hm3']
