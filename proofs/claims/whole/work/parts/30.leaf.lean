def kB (p : Prop) [Decidable p] : Int32 := if p then 1 else 0
theorem kB_t {p : Prop} [Decidable p] (h : p) : kB p = 1 := if_pos h
theorem kB_f {p : Prop} [Decidable p] (h : ¬ p) : kB p = 0 := if_neg h
theorem kB_e0 {p : Prop} [Decidable p] : kB p = 0 ↔ ¬ p := by
  by_cases h : p
  · rw [kB_t h]; simp [h]
  · rw [kB_f h]; simp [h]
theorem kB_n (p : Prop) [Decidable p] : narrow .boolean (.int (kB p)) = .int (kB p) := by
  by_cases h : p
  · rw [kB_t h]; rfl
  · rw [kB_f h]; rfl
abbrev kQi (r : Int32) (I : kv_IM) : Option Value → kv_IM → Prop := fun v J => v = some (.int r) ∧ I = J
abbrev kQl (r : Int64) (I : kv_IM) : Option Value → kv_IM → Prop := fun v J => v = some (.long r) ∧ I = J
abbrev kQr (r : Nat) (I : kv_IM) : Option Value → kv_IM → Prop := fun v J => v = some (.ref r) ∧ I = J
abbrev kQv (I : kv_IM) : Option Value → kv_IM → Prop := fun v J => v = none ∧ I = J
theorem kQi_end {n : Nat} {S : kv_SM} {I : kv_IM} {r r' : Int32} (h : r = r') : kv_PQ n S (kQi r' I) (some (.int r)) n S I := ⟨rfl, rfl, by rw [h], rfl⟩
theorem i_lt {x z : Int32} : x < z ↔ x.toInt < z.toInt := Int32.lt_iff_toInt_lt
theorem i_le {x z : Int32} : x ≤ z ↔ x.toInt ≤ z.toInt := Int32.le_iff_toInt_le
theorem i_nlt {x z : Int32} : ¬ x < z ↔ z.toInt ≤ x.toInt := by rw [i_lt]; omega
theorem i_nle {x z : Int32} : ¬ x ≤ z ↔ z.toInt < x.toInt := by rw [i_le]; omega
theorem i_eq {x z : Int32} : x = z ↔ x.toInt = z.toInt := Int32.toInt_inj.symm
theorem c_Cb_isText {d : Nat} {B : kv_B} {n : Nat} {S : kv_SM} {I : kv_IM} (t : Int32) : kv_P y_Cb_isText d B [.int t] n S I (kQi (kB (0 ≤ t.toInt ∧ t.toInt < 4)) I) := by
  refine kv_P.of (by decide +kernel) rfl (Nat.le_of_ble_eq_true rfl) ?_
  refine bl_Cb_isText_0 (fun h => ?_) (fun h => ?_)
  · have h1 := i_lt.mp h
    refine bl_Cb_isText_13 (bl_Cb_isText_14 rfl (kQi_end (kB_f ?_).symm))
    simp at h1; omega
  · have h0 := i_nlt.mp h
    refine bl_Cb_isText_4 (fun h => ?_) (fun h => ?_)
    · have h1 := i_le.mp h
      refine bl_Cb_isText_13 (bl_Cb_isText_14 rfl (kQi_end (kB_f ?_).symm))
      simp at h0 h1; omega
    · have h1 := i_nle.mp h
      refine bl_Cb_isText_9 (bl_Cb_isText_14 rfl (kQi_end (kB_t ?_).symm))
      simp at h0 h1; omega
theorem c_Cb_isByte {d : Nat} {B : kv_B} {n : Nat} {S : kv_SM} {I : kv_IM} (t : Int32) : kv_P y_Cb_isByte d B [.int t] n S I (kQi (kB (0 ≤ t.toInt ∧ t.toInt < 256)) I) := by
  refine kv_P.of (by decide +kernel) rfl (Nat.le_of_ble_eq_true rfl) ?_
  refine bl_Cb_isByte_0 (fun h => ?_) (fun h => ?_)
  · have h1 := i_lt.mp h
    refine bl_Cb_isByte_15 (bl_Cb_isByte_16 rfl (kQi_end (kB_f ?_).symm))
    simp at h1; omega
  · have h0 := i_nlt.mp h
    refine bl_Cb_isByte_4 (fun h => ?_) (fun h => ?_)
    · have h1 := i_le.mp h
      refine bl_Cb_isByte_15 (bl_Cb_isByte_16 rfl (kQi_end (kB_f ?_).symm))
      simp at h0 h1; omega
    · have h1 := i_nle.mp h
      refine bl_Cb_isByte_11 (bl_Cb_isByte_16 rfl (kQi_end (kB_t ?_).symm))
      simp at h0 h1; omega
theorem c_Cb_unsigned {d : Nat} {B : kv_B} {n : Nat} {S : kv_SM} {I : kv_IM} (t : Int32) : kv_P y_Cb_unsigned d B [.int t] n S I (kQl (t.toInt64 &&& 4294967295) I) := by
  refine kv_P.of (by decide +kernel) rfl (Nat.le_of_ble_eq_true rfl) ?_
  exact bl_Cb_unsigned_0 ⟨rfl, rfl, rfl, rfl⟩
theorem c_Md_in {d : Nat} {B : kv_B} {n : Nat} {S : kv_SM} {I : kv_IM} (v lo hi : Int32) : kv_P y_Md_in d B [.int v, .int lo, .int hi] n S I (kQi (kB (lo.toInt ≤ v.toInt ∧ v.toInt ≤ hi.toInt)) I) := by
  refine kv_P.of (by decide +kernel) rfl (Nat.le_of_ble_eq_true rfl) ?_
  refine bl_Md_in_0 (fun h => ?_) (fun h => ?_)
  · have h1 := i_lt.mp h
    refine bl_Md_in_14 (bl_Md_in_15 rfl (kQi_end (kB_f ?_).symm))
    omega
  · have h0 := i_nlt.mp h
    refine bl_Md_in_5 (fun h => ?_) (fun h => ?_)
    · have h1 := i_lt.mp h
      refine bl_Md_in_14 (bl_Md_in_15 rfl (kQi_end (kB_f ?_).symm))
      omega
    · have h1 := i_nlt.mp h
      refine bl_Md_in_10 (bl_Md_in_15 rfl (kQi_end (kB_t ?_).symm))
      omega
theorem c_Md_isText {d : Nat} {B : kv_B} {n : Nat} {S : kv_SM} {I : kv_IM} (hd : 1 ≤ d) (t : Int32) : kv_P y_Md_isText d B [.int t] n S I (kQi (kB (0 ≤ t.toInt ∧ t.toInt < 4)) I) := by
  refine kv_P.of (by decide +kernel) rfl (Nat.le_of_ble_eq_true rfl) ?_
  refine bp_Md_isText_0 (dc := 0) (c_Md_in t 0 3) hd (fun v J h => ?_)
  obtain ⟨rfl, rfl⟩ := h
  refine bl_Md_isText_6 (kB_n _) (kQi_end ?_)
  by_cases h : 0 ≤ t.toInt ∧ t.toInt < 4
  · rw [kB_t h, kB_t (by simp; omega)]
  · rw [kB_f h, kB_f (by simp; omega)]
