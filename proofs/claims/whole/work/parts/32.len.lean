def RuI (I : kv_IM) (a k0 : Nat) (ru : Nat → Nat) : Prop := ∀ j, j < 6 → I a (k0 + j) = nI (ru j)
def RuOK (ru : Nat → Nat) : Prop := ru 0 ≤ 3 ∧ 1 ≤ ru 1 ∧ ru 1 ≤ 200 ∧ ru 1 ≤ ru 2 ∧ ru 2 ≤ 600 ∧ 1 ≤ ru 3 ∧ ru 3 ≤ 9 ∧ ru 4 ≤ ru 3 ∧ 1 ≤ ru 5 ∧ ru 5 ≤ 16 ∧ ru 1 ≤ ru 2 - ru 2 % ru 5
abbrev kMk (h : Int32) (b : Nat) : Prop := h.toBitVec.toNat < 2 ^ (32 - b)
abbrev kAl (ru : Nat → Nat) (n : Nat) : Prop := ru 1 ≤ n ∧ n % ru 5 = 0
def kWt (ru : Nat → Nat) (n : Nat) : Nat := if ru 0 = 1 then (if n < 2 ^ ru 3 then ru 3 + ru 4 else ru 3 - ru 4) else ru 3
def kCut (ru : Nat → Nat) (tab : Nat → Int32) (f : Nat → Nat) (st len : Nat) : Nat → Nat → Int32 → Nat → Nat
  | 0, _, _, _ => len - st
  | k + 1, n, h, oth => if st + n ≤ len then (if kAl ru n then (if kMk (kNx (ru 0) tab f st n h) (kWt ru n) then n else (if ru 2 < n + ru 5 then (if 0 < oth then oth else n) else kCut ru tab f st len k (n + 1) (kNx (ru 0) tab f st n h) (if ru 0 = 2 ∧ kMk (kNx (ru 0) tab f st n h) (ru 3 - ru 4) then n else oth))) else kCut ru tab f st len k (n + 1) (kNx (ru 0) tab f st n h) oth) else len - st
def kLen (ru : Nat → Nat) (tab : Nat → Int32) (f : Nat → Nat) (st len : Nat) : Nat := kCut ru tab f st len (len - st + 1) 1 0 0
theorem z_su : ∀ n, n < 32 → (((nI n).toUInt32 &&& Int32.toUInt32 31).toBitVec % 32).toNat = n := by decide +kernel
theorem z_sl : ∀ n, n < 32 → ((nI n &&& 31).toBitVec.smod 32).toNat = n := by decide +kernel
theorem z_eq0 {z : Int32} : z = 0 ↔ z.toBitVec.toNat = 0 := by
  constructor
  · rintro rfl; rfl
  · intro h
    have h1 : z.toBitVec = 0#32 := BitVec.eq_of_toNat_eq (by rw [h]; rfl)
    exact Int32.toBitVec_inj.mp (by rw [h1]; rfl)
theorem z_ushr (h : Int32) {k : Nat} (hk : k < 32) : (((Int32.toUInt32 h >>> (Int32.toUInt32 (nI k) &&& Int32.toUInt32 31)).toInt32) = 0) ↔ h.toBitVec.toNat < 2 ^ k := by
  rw [z_eq0, pk_ushr h (nI k) k (z_su k hk)]
  rw [Nat.div_eq_zero_iff]
  have := Nat.two_pow_pos k
  omega
theorem z_bit (h : Int32) {k : Nat} (hk : k < 31) (hm : kMk h k) : (((Int32.toUInt32 h >>> (Int32.toUInt32 (nI (31 - k)) &&& Int32.toUInt32 31)).toInt32) &&& 1 = 0) ↔ kMk h (k + 1) := by
  have e := pk_ushr h (nI (31 - k)) (31 - k) (z_su _ (by omega))
  rw [pk_and _ (m := 1) 1 rfl, e]
  have e1 : (2 : Nat) ^ (32 - k) = 2 * 2 ^ (31 - k) := by rw [← Nat.pow_succ']; congr 1; omega
  have e2 : 32 - (k + 1) = 31 - k := by omega
  unfold kMk at hm ⊢
  rw [e1] at hm
  rw [e2]
  have hp := Nat.two_pow_pos (31 - k)
  generalize (2 : Nat) ^ (31 - k) = P at *
  generalize h.toBitVec.toNat = x at *
  have hq : x / P < 2 := (Nat.div_lt_iff_lt_mul hp).mpr hm
  have h2 : x / P % 2 ^ 1 = x / P := Nat.mod_eq_of_lt (by omega)
  rw [h2, show (0 : Int32) = nI 0 from rfl, nI_eq (by omega) (by omega), Nat.div_eq_zero_iff]
  omega
theorem c_Rul_marked {d : Nat} {B : kv_B} {n : Nat} {S : kv_SM} {I : kv_IM} (h : Int32) {b : Nat} (hb : b ≤ 18) : kv_P y_Rul_marked d B [.int h, .int (nI b)] n S I (kQi (kB (kMk h b)) I) := by
  refine kv_P.of (by decide +kernel) rfl (Nat.le_of_ble_eq_true rfl) ?_
  refine bl_Rul_marked_0 (fun h0 => ?_) (fun h0 => ?_)
  · have : b = 0 := (nI_eq (by omega) (by omega : 0 < 2 ^ 31)).mp h0
    subst this
    refine bl_Rul_marked_13 (bl_Rul_marked_18 rfl (kQi_end (kB_t ?_).symm))
    exact h.toBitVec.isLt
  · have hb0 : b ≠ 0 := fun q => h0 (by rw [q]; rfl)
    have e : (32 : Int32) - nI b = nI (32 - b) := pk_sub (a := 32) (by omega)
    refine bl_Rul_marked_4 (fun h1 => ?_) (fun h1 => ?_)
    · rw [e, z_ushr h (by omega)] at h1
      exact bl_Rul_marked_17 (bl_Rul_marked_18 rfl (kQi_end (kB_f h1).symm))
    · rw [e, z_ushr h (by omega)] at h1
      exact bl_Rul_marked_13 (bl_Rul_marked_18 rfl (kQi_end (kB_t h1).symm))
theorem c_Md_isMarked {d : Nat} {B : kv_B} {n : Nat} {S : kv_SM} {I : kv_IM} (h : Int32) {b : Nat} (hb : b ≤ 18) : kv_P y_Md_isMarked d B [.int h, .int (nI b)] n S I (kQi (kB (kMk h b)) I) := by
  refine kv_P.of (by decide +kernel) rfl (Nat.le_of_ble_eq_true rfl) ?_
  refine bl_Md_isMarked_0 ?_
  have loop : ∀ j k : Nat, k + j = b → kv_V y_Md_isMarked d B (kv_PQ n S (kQi (kB (kMk h b)) I)) 0 0 n S I 4 [(0, .int h), (1, .int (nI b)), (2, .int (kB (kMk h k))), (3, .int (nI k))] [] := by
    intro j
    induction j with
    | zero =>
      intro k hk
      have : k = b := by omega
      subst this
      refine bl_Md_isMarked_4 (fun _ => ?_) (fun h1 => absurd (nI_le (Nat.le_refl k) (by omega)) h1)
      exact bl_Md_isMarked_36 (kB_n _) (kQi_end rfl)
    | succ j ih =>
      intro k hk
      refine bl_Md_isMarked_4 (fun h1 => absurd h1 (nI_ge (by omega) (by omega))) (fun _ => ?_)
      have hs : nI k + 1 = nI (k + 1) := nI_1 k
      have e : (31 : Int32) - nI k = nI (31 - k) := pk_sub (a := 31) (by omega)
      have mono : kMk h (k + 1) → kMk h k := fun q => Nat.lt_of_lt_of_le q (Nat.pow_le_pow_right (by omega) (by omega))
      refine bl_Md_isMarked_9 (fun h1 => ?_) (fun h1 => ?_)
      · have hm : ¬ kMk h k := kB_e0.mp h1
        refine bl_Md_isMarked_28 (bl_Md_isMarked_29 ?_)
        have h2 := ih (k + 1) (by omega)
        rw [kB_f (fun q => hm (mono q))] at h2
        rw [hs]
        exact h2
      · have hm : kMk h k := Classical.not_not.mp (fun q => h1 (kB_e0.mpr q))
        have h2 := ih (k + 1) (by omega)
        refine bl_Md_isMarked_13 (fun h3 => ?_) (fun h3 => ?_)
        · rw [e, z_bit h (by omega) hm] at h3
          refine bl_Md_isMarked_28 (bl_Md_isMarked_29 ?_)
          rw [kB_f h3] at h2
          rw [hs]
          exact h2
        · rw [e, z_bit h (by omega) hm] at h3
          refine bl_Md_isMarked_24 (bl_Md_isMarked_29 ?_)
          rw [kB_t h3] at h2
          rw [hs]
          exact h2
  have h0 := loop b 0 (by omega)
  rw [kB_t (show kMk h 0 from h.toBitVec.isLt)] at h0
  exact h0
theorem z_rem {n r : Nat} (hn : n < 2 ^ 31) (hr : 0 < r) (hr2 : r < 2 ^ 31) : (nI n - nI n / nI r * nI r = 0) ↔ n % r = 0 := by
  rw [pk_rem hn hr hr2]
  have := Nat.mod_lt n hr
  exact nI_eq (a := n % r) (b := 0) (by omega) (by omega)
theorem c_Rul_allowed {d : Nat} {B : kv_B} {n : Nat} {S : kv_SM} {I : kv_IM} {r k : Nat} {ru : Nat → Nat} (hS : RulS S r) (hru : RuI I r 1 ru) (hok : RuOK ru) (hk : k < 2 ^ 30) : kv_P y_Rul_allowed d B [.ref r, .int (nI k)] n S I (kQi (kB (kAl ru k)) I) := by
  obtain ⟨o0, o1, o2, o3, o4, o5, o6, o7, o8, o9, o10⟩ := hok
  have e1 : I r 2 = nI (ru 1) := hru 1 (by omega)
  have e5 : I r 6 = nI (ru 5) := hru 5 (by omega)
  refine kv_P.of (by decide +kernel) rfl (Nat.le_of_ble_eq_true rfl) ?_
  refine bl_Rul_allowed_0 hS.1 (fun h1 => ?_) (fun h1 => ?_)
  · rw [e1, nI_ltI (by omega) (by omega)] at h1
    exact bl_Rul_allowed_28 (bl_Rul_allowed_29 rfl (kQi_end (kB_f (fun q => by omega)).symm))
  · rw [e1, nI_ltI (by omega) (by omega)] at h1
    refine bl_Rul_allowed_8 hS.1 (fun h2 => ?_) (fun h2 => ?_)
    · rw [e5, show (0 : Int32) = nI 0 from rfl, nI_leI (by omega) (by omega)] at h2
      omega
    · refine bl_Rul_allowed_15 hS.1 (by rw [e5]; exact nI_ne0 (by omega) (by omega)) (fun h3 => ?_) (fun h3 => ?_)
      · rw [e5, z_rem (by omega) (by omega) (by omega)] at h3
        exact bl_Rul_allowed_28 (bl_Rul_allowed_29 rfl (kQi_end (kB_f (fun q => h3 q.2)).symm))
      · rw [e5, z_rem (by omega) (by omega) (by omega)] at h3
        exact bl_Rul_allowed_24 (bl_Rul_allowed_29 rfl (kQi_end (kB_t ⟨by omega, h3⟩).symm))
theorem z_shl1 {k : Nat} (hk : k ≤ 9) : (1 : Int32) <<< (nI k &&& 31) = nI (2 ^ k) := by
  have h : (2 : Nat) ^ k ≤ 2 ^ 9 := Nat.pow_le_pow_right (by omega) hk
  have e := pk_shlN (n := 1) (nI k &&& 31) k (z_sl k (by omega)) (by omega)
  rw [Nat.one_mul] at e
  exact e
theorem c_Rul_marksAt {d : Nat} {B : kv_B} {n : Nat} {S : kv_SM} {I : kv_IM} {r k : Nat} {ru : Nat → Nat} (hS : RulS S r) (hru : RuI I r 1 ru) (hok : RuOK ru) (hk : k < 2 ^ 30) : kv_P y_Rul_marksAt d B [.ref r, .int (nI k)] n S I (kQi (nI (kWt ru k)) I) := by
  obtain ⟨o0, o1, o2, o3, o4, o5, o6, o7, o8, o9, o10⟩ := hok
  have e0 : I r 1 = nI (ru 0) := hru 0 (by omega)
  have e3 : I r 4 = nI (ru 3) := hru 3 (by omega)
  have e4 : I r 5 = nI (ru 4) := hru 4 (by omega)
  have h2 : (2 : Nat) ^ ru 3 ≤ 2 ^ 9 := Nat.pow_le_pow_right (by omega) o6
  refine kv_P.of (by decide +kernel) rfl (Nat.le_of_ble_eq_true rfl) ?_
  refine bl_Rul_marksAt_0 hS.1 (fun h1 => ?_) (fun h1 => ?_)
  · have h1' : ru 0 = 1 := by
      rw [e0] at h1
      exact (nI_eq (by omega) (by omega : 1 < 2 ^ 31)).mp h1
    refine bl_Rul_marksAt_13 hS.1 (fun h3 => ?_) (fun h3 => ?_)
    · rw [e3, z_shl1 o6, nI_leI (by omega) (by omega)] at h3
      refine bl_Rul_marksAt_35 hS.1 (bl_Rul_marksAt_44 (kQi_end ?_))
      rw [e3, e4, pk_sub o7]
      unfold kWt
      rw [if_pos h1', if_neg (by omega)]
    · rw [e3, z_shl1 o6, nI_leI (by omega) (by omega)] at h3
      refine bl_Rul_marksAt_23 hS.1 (bl_Rul_marksAt_44 (kQi_end ?_))
      rw [e3, e4, nI_add]
      unfold kWt
      rw [if_pos h1', if_pos (by omega)]
  · have h1' : ¬ ru 0 = 1 := fun q => h1 (by rw [e0, q]; rfl)
    refine bl_Rul_marksAt_8 hS.1 (kQi_end ?_)
    rw [e3]
    unfold kWt
    rw [if_neg h1']
theorem kWt_le {ru : Nat → Nat} (hok : RuOK ru) (n : Nat) : kWt ru n ≤ 18 := by
  obtain ⟨o0, o1, o2, o3, o4, o5, o6, o7, o8, o9, o10⟩ := hok
  unfold kWt
  split
  · split <;> omega
  · omega
