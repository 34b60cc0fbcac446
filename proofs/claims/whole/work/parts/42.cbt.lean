abbrev kR3 : Type := Int32 × (Nat → Nat) × (Nat → Nat → Nat)
def sIns (len : Nat → Nat) (tb : Nat → Nat → Nat) (t a b : Int32) : kR3 :=
  if kT t ∧ (0 ≤ a.toInt ∧ a.toInt ≤ len (tN t)) ∧ (0 ≤ b.toInt ∧ b.toInt < 256) then (if len (tN t) = 1500 then (-2, len, tb) else (nI (len (tN t) + 1), kU len (tN t) (len (tN t) + 1), kU tb (tN t) (kIns (tb (tN t)) (tN a) (tN b)))) else (-1, len, tb)
def sAdd (len : Nat → Nat) (tb : Nat → Nat → Nat) (t b : Int32) : kR3 := sIns len tb t (nI (len (tN t))) b
def sFill (len : Nat → Nat) (tb : Nat → Nat → Nat) (t m seed sp : Int32) : kR3 :=
  if kT t ∧ (1 ≤ m.toInt ∧ m.toInt ≤ 400) ∧ (1 ≤ sp.toInt ∧ sp.toInt ≤ 256) then (if 1500 < len (tN t) + tN m then (-2, len, tb) else (nI (len (tN t) + tN m), kU len (tN t) (len (tN t) + tN m), kU tb (tN t) (kApp (tb (tN t)) (len (tN t)) seed (tN sp)))) else (-1, len, tb)
def sRem (len : Nat → Nat) (tb : Nat → Nat → Nat) (t a m : Int32) : kR3 :=
  if kT t ∧ (0 ≤ a.toInt ∧ a.toInt ≤ len (tN t)) ∧ (0 ≤ m.toInt ∧ m.toInt ≤ len (tN t) - a.toInt) then (nI (len (tN t) - tN m), kU len (tN t) (len (tN t) - tN m), kU tb (tN t) (kRem (tb (tN t)) (tN a) (tN m))) else (-1, len, tb)
def sCopy (len : Nat → Nat) (tb : Nat → Nat → Nat) (t s : Int32) : kR3 :=
  if kT t ∧ kT s then (nI (len (tN s)), kU len (tN t) (len (tN s)), kU tb (tN t) (tb (tN s))) else (-1, len, tb)
def sSize (len : Nat → Nat) (t : Int32) : Int32 := if kT t then nI (len (tN t)) else -1
def sByte (len : Nat → Nat) (tb : Nat → Nat → Nat) (t i : Int32) : Int32 := if kT t ∧ (0 ≤ i.toInt ∧ i.toInt < len (tN t)) then nI (tb (tN t) (tN i)) else -1
abbrev CbQ (I : kv_IM) (o : Nat) (ru : Nat → Nat) (tab : Nat → Int32) (R : kR3) : Option Value → kv_IM → Prop := fun v J => v = some (.int R.1) ∧ kFr o (o + 31) I J ∧ CbA J o ru tab R.2.1 R.2.2
theorem kT_of {t : Int32} (h : kT t) : tN t < 4 ∧ t = nI (tN t) := by
  obtain ⟨a, b, c⟩ := tN_of h.1
  exact ⟨by have := h.2; omega, a⟩
theorem c_Cb_add {d : Nat} {B : kv_B} {n : Nat} {S : kv_SM} {I : kv_IM} (hd : 3 ≤ d) {o : Nat} {ru : Nat → Nat} {tab : Nat → Int32} {len : Nat → Nat} {tb : Nat → Nat → Nat} (t b : Int32) (hS : CbS S o) (hA : CbA I o ru tab len tb) :
    kv_P y_Cb_add d B [.ref o, .int t, .int b] n S I (CbQ I o ru tab (sAdd len tb t b)) := by
  obtain ⟨s0, s1, s2, s3, s4⟩ := id hS
  refine kv_P.of (by decide +kernel) rfl (Nat.le_of_ble_eq_true rfl) ?_
  refine bp_Cb_add_0 (dc := 0) (c_Cb_isText t) (by omega) (fun v J hv => ?_)
  obtain ⟨rfl, rfl⟩ := hv
  refine bl_Cb_add_4 (fun h => ?_) (fun h => ?_)
  · have hv := kB_e0.mp h
    have e : sAdd len tb t b = (-1, len, tb) := by
      unfold sAdd sIns
      rw [if_neg (fun q => hv q.1)]
    rw [e]
    exact bl_Cb_add_14 ⟨rfl, rfl, rfl, fun _ _ => rfl, hA⟩
  have ht : kT t := Classical.not_not.mp (fun q => h (kB_e0.mpr q))
  obtain ⟨hk, et⟩ := kT_of ht
  have hT := hA.2.2 (tN t) hk
  have hl := hT.1
  refine bp_Cb_add_7 (dc := 0) (c_Cb_isByte b) (by omega) (fun v J hv => ?_)
  obtain ⟨rfl, rfl⟩ := hv
  refine bl_Cb_add_11 (fun h => ?_) (fun h => ?_)
  rotate_left
  · have hv := kB_e0.mp h
    have e : sAdd len tb t b = (-1, len, tb) := by
      unfold sAdd sIns
      rw [if_neg (fun q => hv q.2.2)]
    rw [e]
    exact bl_Cb_add_14 ⟨rfl, rfl, rfl, fun _ _ => rfl, hA⟩
  have hb := Classical.not_not.mp (fun q => h (kB_e0.mpr q))
  obtain ⟨b1, b2, b3⟩ := tN_of hb.1
  have sk := s3 (tN t) hk
  have el : (nI (len (tN t))).toInt = len (tN t) := nI_toInt (by omega)
  have e : sAdd len tb t b = if len (tN t) = 1500 then (-2, len, tb) else (nI (len (tN t) + 1), kU len (tN t) (len (tN t) + 1), kU tb (tN t) (kIns (tb (tN t)) (len (tN t)) (tN b))) := by
    unfold sAdd sIns
    rw [if_pos ⟨ht, ⟨by omega, by omega⟩, hb⟩, tN_nI (by omega)]
  refine bp_Cb_add_16 (dc := 2) s0 rfl s2 (j4 := tN t) ⟨et, hk, by omega⟩ (txtA_k hk) sk.1 (by
    rw [hT.2.1, b1]
    exact c_Txt_put (by omega) sk hT (Nat.le_refl _) (by have := hb.2; omega)) (by omega) (fun v J hv => ?_)
  obtain ⟨hF, rfl, hX⟩ := hv
  refine bl_Cb_add_35 ⟨rfl, rfl, ?_, fun a ha => hF a (by omega), ?_⟩
  · rw [e]
    split <;> rfl
  · rw [e]
    by_cases h15 : len (tN t) = 1500
    · rw [if_pos h15] at hX ⊢
      exact CbA_same hA hk hF hX
    · rw [if_neg h15] at hX ⊢
      exact CbA_upd hA hk hF hX
theorem c_Cb_insert {d : Nat} {B : kv_B} {n : Nat} {S : kv_SM} {I : kv_IM} (hd : 3 ≤ d) {o : Nat} {ru : Nat → Nat} {tab : Nat → Int32} {len : Nat → Nat} {tb : Nat → Nat → Nat} (t a b : Int32) (hS : CbS S o) (hA : CbA I o ru tab len tb) :
    kv_P y_Cb_insert d B [.ref o, .int t, .int a, .int b] n S I (CbQ I o ru tab (sIns len tb t a b)) := by
  obtain ⟨s0, s1, s2, s3, s4⟩ := id hS
  refine kv_P.of (by decide +kernel) rfl (Nat.le_of_ble_eq_true rfl) ?_
  have bad : ¬ (kT t ∧ (0 ≤ a.toInt ∧ a.toInt ≤ len (tN t)) ∧ (0 ≤ b.toInt ∧ b.toInt < 256)) → kv_V y_Cb_insert d B (kv_PQ n S (CbQ I o ru tab (sIns len tb t a b))) 0 0 n S I 31 [(0, .ref o), (1, .int t), (2, .int a), (3, .int b)] [] := by
    intro hn
    have e : sIns len tb t a b = (-1, len, tb) := by
      unfold sIns
      rw [if_neg hn]
    rw [e]
    exact bl_Cb_insert_31 ⟨rfl, rfl, rfl, fun _ _ => rfl, hA⟩
  refine bp_Cb_insert_0 (dc := 0) (c_Cb_isText t) (by omega) (fun v J hv => ?_)
  obtain ⟨rfl, rfl⟩ := hv
  refine bl_Cb_insert_4 (fun h => ?_) (fun h => ?_)
  · have hv := kB_e0.mp h
    exact bad (fun q => hv q.1)
  have ht : kT t := Classical.not_not.mp (fun q => h (kB_e0.mpr q))
  obtain ⟨hk, et⟩ := kT_of ht
  have hT := hA.2.2 (tN t) hk
  have hl := hT.1
  have sk := s3 (tN t) hk
  refine bl_Cb_insert_7 (fun h => ?_) (fun h => ?_)
  · have h := i_lt.mp h
    refine bad (fun q => ?_)
    have := q.2.1.1
    simp at h
    omega
  have ha := i_nlt.mp h
  simp only [Int32.toInt_zero] at ha
  obtain ⟨a1, a2, a3⟩ := tN_of ha
  refine bl_Cb_insert_11 s0 rfl s2 (j4 := tN t) ⟨et, hk, by omega⟩ (txtA_k hk) sk.1 (fun h => ?_) (fun h => ?_)
  · rw [hT.2.1, a1, nI_ltI (by omega) (by omega)] at h
    exact bad (fun q => by have := q.2.1.2; omega)
  rw [hT.2.1, a1, nI_ltI (by omega) (by omega)] at h
  refine bp_Cb_insert_24 (dc := 0) (c_Cb_isByte b) (by omega) (fun v J hv => ?_)
  obtain ⟨rfl, rfl⟩ := hv
  refine bl_Cb_insert_28 (fun hq => ?_) (fun hq => ?_)
  rotate_left
  · have hv := kB_e0.mp hq
    exact bad (fun q => hv q.2.2)
  have hb := Classical.not_not.mp (fun q => hq (kB_e0.mpr q))
  obtain ⟨b1, b2, b3⟩ := tN_of hb.1
  have e : sIns len tb t a b = if len (tN t) = 1500 then (-2, len, tb) else (nI (len (tN t) + 1), kU len (tN t) (len (tN t) + 1), kU tb (tN t) (kIns (tb (tN t)) (tN a) (tN b))) := by
    unfold sIns
    rw [if_pos ⟨ht, ⟨by omega, by omega⟩, hb⟩]
  refine bp_Cb_insert_33 (dc := 2) s0 rfl s2 (j4 := tN t) ⟨et, hk, by omega⟩ (txtA_k hk) sk.1 (by
    have := c_Txt_put (d := 2) (B := B) (n := n) (S := S) (a := tN a) (b := tN b) (by omega) sk hT (by omega) (by have := hb.2; omega)
    rw [← a1, ← b1] at this
    exact this) (by omega) (fun v J hv => ?_)
  obtain ⟨hF, rfl, hX⟩ := hv
  refine bl_Cb_insert_44 ⟨rfl, rfl, ?_, fun a ha => hF a (by omega), ?_⟩
  · rw [e]
    split <;> rfl
  · rw [e]
    by_cases h15 : len (tN t) = 1500
    · rw [if_pos h15] at hX ⊢
      exact CbA_same hA hk hF hX
    · rw [if_neg h15] at hX ⊢
      exact CbA_upd hA hk hF hX
theorem c_Cb_fill {d : Nat} {B : kv_B} {n : Nat} {S : kv_SM} {I : kv_IM} (hd : 3 ≤ d) {o : Nat} {ru : Nat → Nat} {tab : Nat → Int32} {len : Nat → Nat} {tb : Nat → Nat → Nat} (t m seed sp : Int32) (hS : CbS S o) (hA : CbA I o ru tab len tb) :
    kv_P y_Cb_fill d B [.ref o, .int t, .int m, .int seed, .int sp] n S I (CbQ I o ru tab (sFill len tb t m seed sp)) := by
  obtain ⟨s0, s1, s2, s3, s4⟩ := id hS
  have t1 : (1 : Int32).toInt = 1 := by decide
  have t400 : (400 : Int32).toInt = 400 := by decide
  have t256 : (256 : Int32).toInt = 256 := by decide
  refine kv_P.of (by decide +kernel) rfl (Nat.le_of_ble_eq_true rfl) ?_
  have bad : ¬ (kT t ∧ (1 ≤ m.toInt ∧ m.toInt ≤ 400) ∧ (1 ≤ sp.toInt ∧ sp.toInt ≤ 256)) → kv_V y_Cb_fill d B (kv_PQ n S (CbQ I o ru tab (sFill len tb t m seed sp))) 0 0 n S I 33 [(0, .ref o), (1, .int t), (2, .int m), (3, .int seed), (4, .int sp)] [] := by
    intro hn
    have e : sFill len tb t m seed sp = (-1, len, tb) := by
      unfold sFill
      rw [if_neg hn]
    rw [e]
    exact bl_Cb_fill_33 ⟨rfl, rfl, rfl, fun _ _ => rfl, hA⟩
  refine bp_Cb_fill_0 (dc := 0) (c_Cb_isText t) (by omega) (fun v J hv => ?_)
  obtain ⟨rfl, rfl⟩ := hv
  refine bl_Cb_fill_4 (fun h => ?_) (fun h => ?_)
  · have hv := kB_e0.mp h
    exact bad (fun q => hv q.1)
  have ht : kT t := Classical.not_not.mp (fun q => h (kB_e0.mpr q))
  obtain ⟨hk, et⟩ := kT_of ht
  have hT := hA.2.2 (tN t) hk
  have sk := s3 (tN t) hk
  refine bl_Cb_fill_7 (fun h => ?_) (fun h => ?_)
  · have h := i_lt.mp h
    exact bad (fun q => by omega)
  have g1 := i_nlt.mp h
  refine bl_Cb_fill_12 (fun h => ?_) (fun h => ?_)
  · have h := i_lt.mp h
    exact bad (fun q => by omega)
  have g2 := i_nlt.mp h
  refine bl_Cb_fill_19 (fun h => ?_) (fun h => ?_)
  · have h := i_lt.mp h
    exact bad (fun q => by omega)
  have g3 := i_nlt.mp h
  refine bl_Cb_fill_25 (fun h => ?_) (fun h => ?_)
  rotate_left
  · have h := i_nle.mp h
    exact bad (fun q => by omega)
  have g4 := i_le.mp h
  obtain ⟨m1, m2, m3⟩ := tN_of (t := m) (by omega)
  obtain ⟨p1, p2, p3⟩ := tN_of (t := sp) (by omega)
  have e : sFill len tb t m seed sp = if 1500 < len (tN t) + tN m then (-2, len, tb) else (nI (len (tN t) + tN m), kU len (tN t) (len (tN t) + tN m), kU tb (tN t) (kApp (tb (tN t)) (len (tN t)) seed (tN sp))) := by
    unfold sFill
    rw [if_pos ⟨ht, ⟨by omega, by omega⟩, ⟨by omega, by omega⟩⟩]
  refine bp_Cb_fill_35 (dc := 2) s0 rfl s2 (j4 := tN t) ⟨et, hk, by omega⟩ (txtA_k hk) sk.1 (by
    have := c_Txt_sow (d := 2) (B := B) (n := n) (S := S) (m := tN m) (sp := tN sp) (by omega) seed sk hT (by omega) (by omega) (by omega) (by omega)
    rw [← m1, ← p1] at this
    exact this) (by omega) (fun v J hv => ?_)
  obtain ⟨hF, rfl, hX⟩ := hv
  refine bl_Cb_fill_48 ⟨rfl, rfl, ?_, fun a ha => hF a (by omega), ?_⟩
  · rw [e]
    split <;> rfl
  · rw [e]
    by_cases h15 : 1500 < len (tN t) + tN m
    · rw [if_pos h15] at hX ⊢
      exact CbA_same hA hk hF hX
    · rw [if_neg h15] at hX ⊢
      exact CbA_upd hA hk hF hX
theorem c_Cb_remove {d : Nat} {B : kv_B} {n : Nat} {S : kv_SM} {I : kv_IM} (hd : 3 ≤ d) {o : Nat} {ru : Nat → Nat} {tab : Nat → Int32} {len : Nat → Nat} {tb : Nat → Nat → Nat} (t a m : Int32) (hS : CbS S o) (hA : CbA I o ru tab len tb) :
    kv_P y_Cb_remove d B [.ref o, .int t, .int a, .int m] n S I (CbQ I o ru tab (sRem len tb t a m)) := by
  obtain ⟨s0, s1, s2, s3, s4⟩ := id hS
  refine kv_P.of (by decide +kernel) rfl (Nat.le_of_ble_eq_true rfl) ?_
  have ebad : ¬ (kT t ∧ (0 ≤ a.toInt ∧ a.toInt ≤ len (tN t)) ∧ (0 ≤ m.toInt ∧ m.toInt ≤ len (tN t) - a.toInt)) → sRem len tb t a m = (-1, len, tb) := by
    intro hn
    unfold sRem
    rw [if_neg hn]
  have bad : ¬ (kT t ∧ (0 ≤ a.toInt ∧ a.toInt ≤ len (tN t)) ∧ (0 ≤ m.toInt ∧ m.toInt ≤ len (tN t) - a.toInt)) → kv_V y_Cb_remove d B (kv_PQ n S (CbQ I o ru tab (sRem len tb t a m))) 0 0 n S I 24 [(0, .ref o), (1, .int t), (2, .int a), (3, .int m)] [] := by
    intro hn
    rw [ebad hn]
    exact bl_Cb_remove_24 ⟨rfl, rfl, rfl, fun _ _ => rfl, hA⟩
  have bad2 : ¬ (kT t ∧ (0 ≤ a.toInt ∧ a.toInt ≤ len (tN t)) ∧ (0 ≤ m.toInt ∧ m.toInt ≤ len (tN t) - a.toInt)) → kv_V y_Cb_remove d B (kv_PQ n S (CbQ I o ru tab (sRem len tb t a m))) 0 0 n S I 45 [(0, .ref o), (1, .int t), (2, .int a), (3, .int m)] [] := by
    intro hn
    rw [ebad hn]
    exact bl_Cb_remove_45 ⟨rfl, rfl, rfl, fun _ _ => rfl, hA⟩
  refine bp_Cb_remove_0 (dc := 0) (c_Cb_isText t) (by omega) (fun v J hv => ?_)
  obtain ⟨rfl, rfl⟩ := hv
  refine bl_Cb_remove_4 (fun h => ?_) (fun h => ?_)
  · have hv := kB_e0.mp h
    exact bad (fun q => hv q.1)
  have ht : kT t := Classical.not_not.mp (fun q => h (kB_e0.mpr q))
  obtain ⟨hk, et⟩ := kT_of ht
  have hT := hA.2.2 (tN t) hk
  have hl := hT.1
  have sk := s3 (tN t) hk
  refine bl_Cb_remove_7 (fun h => ?_) (fun h => ?_)
  · have h := i_lt.mp h
    simp only [Int32.toInt_zero] at h
    exact bad (fun q => by have := q.2.1.1; omega)
  have ha := i_nlt.mp h
  simp only [Int32.toInt_zero] at ha
  obtain ⟨a1, a2, a3⟩ := tN_of ha
  refine bl_Cb_remove_11 s0 rfl s2 (j4 := tN t) ⟨et, hk, by omega⟩ (txtA_k hk) sk.1 (fun h => ?_) (fun h => ?_)
  rotate_left
  · rw [hT.2.1, a1, nI_leI (by omega) (by omega)] at h
    exact bad (fun q => by have := q.2.1.2; omega)
  rw [hT.2.1, a1, nI_leI (by omega) (by omega)] at h
  refine bl_Cb_remove_26 (fun hm => ?_) (fun hm => ?_)
  · have hm := i_lt.mp hm
    simp only [Int32.toInt_zero] at hm
    exact bad2 (fun q => by have := q.2.2.1; omega)
  have hm := i_nlt.mp hm
  simp only [Int32.toInt_zero] at hm
  obtain ⟨m1, m2, m3⟩ := tN_of hm
  refine bl_Cb_remove_30 s0 rfl s2 (j4 := tN t) ⟨et, hk, by omega⟩ (txtA_k hk) sk.1 (fun hq => ?_) (fun hq => ?_)
  rotate_left
  · rw [hT.2.1, a1, pk_sub (by omega), m1, nI_leI (by omega) (by omega)] at hq
    exact bad2 (fun q => by have := q.2.2.2; omega)
  rw [hT.2.1, a1, pk_sub (by omega), m1, nI_leI (by omega) (by omega)] at hq
  have e : sRem len tb t a m = (nI (len (tN t) - tN m), kU len (tN t) (len (tN t) - tN m), kU tb (tN t) (kRem (tb (tN t)) (tN a) (tN m))) := by
    unfold sRem
    rw [if_pos ⟨ht, ⟨by omega, by omega⟩, by omega, by omega⟩]
  refine bp_Cb_remove_47 (dc := 2) s0 rfl s2 (j4 := tN t) ⟨et, hk, by omega⟩ (txtA_k hk) sk.1 (by
    have := c_Txt_take (d := 2) (B := B) (n := n) (S := S) (a := tN a) (m := tN m) (by omega) sk hT (by omega)
    rw [← a1, ← m1] at this
    exact this) (by omega) (fun v J hv => ?_)
  obtain ⟨hF, rfl, hX⟩ := hv
  refine bl_Cb_remove_58 ⟨rfl, rfl, by rw [e], fun a ha => hF a (by omega), ?_⟩
  rw [e]
  exact CbA_upd hA hk hF hX
theorem c_Cb_copy {d : Nat} {B : kv_B} {n : Nat} {S : kv_SM} {I : kv_IM} (hd : 3 ≤ d) {o : Nat} {ru : Nat → Nat} {tab : Nat → Int32} {len : Nat → Nat} {tb : Nat → Nat → Nat} (t s : Int32) (hS : CbS S o) (hA : CbA I o ru tab len tb) :
    kv_P y_Cb_copy d B [.ref o, .int t, .int s] n S I (CbQ I o ru tab (sCopy len tb t s)) := by
  obtain ⟨s0, s1, s2, s3, s4⟩ := id hS
  refine kv_P.of (by decide +kernel) rfl (Nat.le_of_ble_eq_true rfl) ?_
  have bad : ¬ (kT t ∧ kT s) → kv_V y_Cb_copy d B (kv_PQ n S (CbQ I o ru tab (sCopy len tb t s))) 0 0 n S I 14 [(0, .ref o), (1, .int t), (2, .int s)] [] := by
    intro hn
    have e : sCopy len tb t s = (-1, len, tb) := by
      unfold sCopy
      rw [if_neg hn]
    rw [e]
    exact bl_Cb_copy_14 ⟨rfl, rfl, rfl, fun _ _ => rfl, hA⟩
  refine bp_Cb_copy_0 (dc := 0) (c_Cb_isText t) (by omega) (fun v J hv => ?_)
  obtain ⟨rfl, rfl⟩ := hv
  refine bl_Cb_copy_4 (fun h => ?_) (fun h => ?_)
  · have hv := kB_e0.mp h
    exact bad (fun q => hv q.1)
  have ht : kT t := Classical.not_not.mp (fun q => h (kB_e0.mpr q))
  obtain ⟨hk, et⟩ := kT_of ht
  refine bp_Cb_copy_7 (dc := 0) (c_Cb_isText s) (by omega) (fun v J hv => ?_)
  obtain ⟨rfl, rfl⟩ := hv
  refine bl_Cb_copy_11 (fun h => ?_) (fun h => ?_)
  rotate_left
  · have hv := kB_e0.mp h
    exact bad (fun q => hv q.2)
  have hs : kT s := Classical.not_not.mp (fun q => h (kB_e0.mpr q))
  obtain ⟨hk', es⟩ := kT_of hs
  have e : sCopy len tb t s = (nI (len (tN s)), kU len (tN t) (len (tN s)), kU tb (tN t) (tb (tN s))) := by
    unfold sCopy
    rw [if_pos ⟨ht, hs⟩]
  refine bp_Cb_copy_16 (dc := 2) s0 rfl s2 (j4 := tN t) ⟨et, hk, by omega⟩ (txtA_k hk) (j6 := tN s) ⟨es, hk', by omega⟩ (txtA_k hk') (s3 _ hk).1 (c_Txt_become (by omega) (s3 _ hk) (s3 _ hk') (by omega) (hA.2.2 _ hk) (hA.2.2 _ hk')) (by omega) (fun v J hv => ?_)
  obtain ⟨hF, rfl, hX⟩ := hv
  refine bl_Cb_copy_31 ⟨rfl, rfl, by rw [e], fun a ha => hF a (by omega), ?_⟩
  rw [e]
  exact CbA_upd hA hk hF hX
theorem c_Cb_size {d : Nat} {B : kv_B} {n : Nat} {S : kv_SM} {I : kv_IM} (hd : 3 ≤ d) {o : Nat} {ru : Nat → Nat} {tab : Nat → Int32} {len : Nat → Nat} {tb : Nat → Nat → Nat} (t : Int32) (hS : CbS S o) (hA : CbA I o ru tab len tb) :
    kv_P y_Cb_size d B [.ref o, .int t] n S I (kQi (sSize len t) I) := by
  obtain ⟨s0, s1, s2, s3, s4⟩ := id hS
  refine kv_P.of (by decide +kernel) rfl (Nat.le_of_ble_eq_true rfl) ?_
  refine bp_Cb_size_0 (dc := 0) (c_Cb_isText t) (by omega) (fun v J hv => ?_)
  obtain ⟨rfl, rfl⟩ := hv
  refine bl_Cb_size_4 (fun h => ?_) (fun h => ?_)
  · have hv := kB_e0.mp h
    refine bl_Cb_size_19 (bl_Cb_size_20 (kQi_end ?_))
    unfold sSize
    rw [if_neg hv]
  · have ht : kT t := Classical.not_not.mp (fun q => h (kB_e0.mpr q))
    obtain ⟨hk, et⟩ := kT_of ht
    refine bl_Cb_size_7 s0 rfl s2 (j4 := tN t) ⟨et, hk, by omega⟩ (txtA_k hk) (s3 _ hk).1 (bl_Cb_size_20 (kQi_end ?_))
    unfold sSize
    rw [if_pos ht]
    exact (hA.2.2 _ hk).2.1
theorem c_Cb_hasByte {d : Nat} {B : kv_B} {n : Nat} {S : kv_SM} {I : kv_IM} (hd : 1 ≤ d) {o : Nat} {ru : Nat → Nat} {tab : Nat → Int32} {len : Nat → Nat} {tb : Nat → Nat → Nat} (t i : Int32) (hS : CbS S o) (hA : CbA I o ru tab len tb) :
    kv_P y_Cb_hasByte d B [.ref o, .int t, .int i] n S I (kQi (kB (kT t ∧ (0 ≤ i.toInt ∧ i.toInt < len (tN t)))) I) := by
  obtain ⟨s0, s1, s2, s3, s4⟩ := id hS
  refine kv_P.of (by decide +kernel) rfl (Nat.le_of_ble_eq_true rfl) ?_
  refine bp_Cb_hasByte_0 (dc := 0) (c_Cb_isText t) (by omega) (fun v J hv => ?_)
  obtain ⟨rfl, rfl⟩ := hv
  refine bl_Cb_hasByte_4 (fun h => ?_) (fun h => ?_)
  · have hv := kB_e0.mp h
    exact bl_Cb_hasByte_28 (bl_Cb_hasByte_29 rfl (kQi_end (kB_f (fun q => hv q.1)).symm))
  have ht : kT t := Classical.not_not.mp (fun q => h (kB_e0.mpr q))
  obtain ⟨hk, et⟩ := kT_of ht
  have hT := hA.2.2 _ hk
  have hl := hT.1
  refine bl_Cb_hasByte_7 (fun h => ?_) (fun h => ?_)
  · have h := i_lt.mp h
    simp only [Int32.toInt_zero] at h
    exact bl_Cb_hasByte_28 (bl_Cb_hasByte_29 rfl (kQi_end (kB_f (fun q => by have := q.2.1; omega)).symm))
  have hi := i_nlt.mp h
  simp only [Int32.toInt_zero] at hi
  obtain ⟨i1, i2, i3⟩ := tN_of hi
  refine bl_Cb_hasByte_11 s0 rfl s2 (j4 := tN t) ⟨et, hk, by omega⟩ (txtA_k hk) (s3 _ hk).1 (fun h => ?_) (fun h => ?_)
  · rw [hT.2.1, i1, nI_leI (by omega) (by omega)] at h
    exact bl_Cb_hasByte_28 (bl_Cb_hasByte_29 rfl (kQi_end (kB_f (fun q => by have := q.2.2; omega)).symm))
  · rw [hT.2.1, i1, nI_leI (by omega) (by omega)] at h
    exact bl_Cb_hasByte_24 (bl_Cb_hasByte_29 rfl (kQi_end (kB_t ⟨ht, by omega, by omega⟩).symm))
theorem c_Cb_byteAt {d : Nat} {B : kv_B} {n : Nat} {S : kv_SM} {I : kv_IM} (hd : 2 ≤ d) {o : Nat} {ru : Nat → Nat} {tab : Nat → Int32} {len : Nat → Nat} {tb : Nat → Nat → Nat} (t i : Int32) (hS : CbS S o) (hA : CbA I o ru tab len tb) :
    kv_P y_Cb_byteAt d B [.ref o, .int t, .int i] n S I (kQi (sByte len tb t i) I) := by
  obtain ⟨s0, s1, s2, s3, s4⟩ := id hS
  refine kv_P.of (by decide +kernel) rfl (Nat.le_of_ble_eq_true rfl) ?_
  refine bp_Cb_byteAt_0 (dc := 1) s0 (c_Cb_hasByte (by omega) t i hS hA) (by omega) (fun v J hv => ?_)
  obtain ⟨rfl, rfl⟩ := hv
  refine bl_Cb_byteAt_6 (fun h => ?_) (fun h => ?_)
  · have hv := kB_e0.mp h
    refine bl_Cb_byteAt_26 (bl_Cb_byteAt_27 (kQi_end ?_))
    unfold sByte
    rw [if_neg hv]
  · have hv := Classical.not_not.mp (fun q => h (kB_e0.mpr q))
    obtain ⟨ht, hi, hi2⟩ := id hv
    obtain ⟨hk, et⟩ := kT_of ht
    have hT := hA.2.2 _ hk
    have hl := hT.1
    have sk := s3 _ hk
    obtain ⟨i1, i2, i3⟩ := tN_of hi
    have tt := hT.2.2.1 (tN i) (by omega)
    rw [Nat.zero_add] at tt
    refine bl_Cb_byteAt_9 s0 rfl s2 (j4 := tN t) ⟨et, hk, by omega⟩ (txtA_k hk) sk.1 rfl sk.2.1 rfl sk.2.2.1 (j11 := tN i) ⟨i1, by omega, by omega⟩ (bl_Cb_byteAt_27 (kQi_end ?_))
    unfold sByte
    rw [if_pos hv]
    exact tt.1
