theorem c_Md_insert {d : Nat} {B : kv_B} {n : Nat} {S : kv_SM} {I : kv_IM} (hd : 3 ≤ d) {w : Nat} {ru : Nat → Nat} {tab : Nat → Int32} {len : Nat → Nat} {tb : Nat → Nat → Nat} (t a b : Int32) (hS : MdS S w) (hA : MdA I w ru tab len tb) :
    kv_P y_Md_insert d B [.ref w, .int t, .int a, .int b] n S I (MdQ I w ru tab (sIns len tb t a b)) := by
  refine kv_P.of (by decide +kernel) rfl (Nat.le_of_ble_eq_true rfl) ?_
  refine bp_Md_insert_0 (dc := 2) hS.1 (c_Md_insertAt (by omega) t a b hS (kC0_A hA)) (by omega) (fun v J hv => ?_)
  obtain ⟨rfl, hK, hA1⟩ := hv
  exact bl_Md_insert_12 ⟨rfl, rfl, rfl, MdK_tr kC0_K hK, hA1⟩
theorem c_Md_add {d : Nat} {B : kv_B} {n : Nat} {S : kv_SM} {I : kv_IM} (hd : 3 ≤ d) {w : Nat} {ru : Nat → Nat} {tab : Nat → Int32} {len : Nat → Nat} {tb : Nat → Nat → Nat} (t b : Int32) (hS : MdS S w) (hA : MdA I w ru tab len tb) :
    kv_P y_Md_add d B [.ref w, .int t, .int b] n S I (MdQ I w ru tab (sAdd len tb t b)) := by
  obtain ⟨s0, s1, s2, s3, -⟩ := id hS
  refine kv_P.of (by decide +kernel) rfl (Nat.le_of_ble_eq_true rfl) ?_
  refine bp_Md_add_0 (dc := 1) s0 (c_Md_isText (by omega) t) (by omega) (fun v J hv => ?_)
  obtain ⟨rfl, rfl⟩ := hv
  have fin : ∀ x : Int32, sIns len tb t x b = sAdd len tb t b → kv_V y_Md_add d B (kv_PQ n S (MdQ I w ru tab (sAdd len tb t b))) 0 0 n S (kC0 I w) 24 [(0, .ref w), (1, .int t), (2, .int b)] [.int x, .int t, .ref w] := by
    intro x hx
    refine bp_Md_add_24 (dc := 2) s0 (c_Md_insertAt (by omega) t x b hS (kC0_A hA)) (by omega) (fun v J hv => ?_)
    obtain ⟨rfl, hK, hA1⟩ := hv
    rw [hx] at hA1 ⊢
    exact bl_Md_add_28 ⟨rfl, rfl, rfl, MdK_tr kC0_K hK, hA1⟩
  refine bl_Md_add_11 (fun h => ?_) (fun h => ?_)
  · have hv := kB_e0.mp h
    refine bl_Md_add_23 (fin 0 ?_)
    unfold sAdd sIns
    rw [if_neg (fun q => hv q.1), if_neg (fun q => hv q.1)]
  · have ht : kT t := Classical.not_not.mp (fun q => h (kB_e0.mpr q))
    obtain ⟨hk, et⟩ := kT_of ht
    refine bl_Md_add_14 s0 rfl s2 (j4 := tN t) ⟨et, hk, by omega⟩ (fin _ ?_)
    have hz : kv_up I w 0 0 (w + 2) (tN t) = nI (len (tN t)) := ((kC0_A hA).2.2 _ hk).2.1
    rw [hz]
    rfl
theorem c_Md_fill {d : Nat} {B : kv_B} {n : Nat} {S : kv_SM} {I : kv_IM} (hd : 2 ≤ d) {w : Nat} {ru : Nat → Nat} {tab : Nat → Int32} {len : Nat → Nat} {tb : Nat → Nat → Nat} (t m seed sp : Int32) (hS : MdS S w) (hA' : MdA I w ru tab len tb) :
    kv_P y_Md_fill d B [.ref w, .int t, .int m, .int seed, .int sp] n S I (MdQ I w ru tab (sFill len tb t m seed sp)) := by
  obtain ⟨s0, s1, s2, s3, -⟩ := id hS
  have t1 : (1 : Int32).toInt = 1 := by decide
  have t400 : (400 : Int32).toInt = 400 := by decide
  have t256 : (256 : Int32).toInt = 256 := by decide
  have hA := kC0_A hA'
  have hK0 := kC0_K (I := I) (w := w)
  refine kv_P.of (by decide +kernel) rfl (Nat.le_of_ble_eq_true rfl) ?_
  have bad : ¬ (kT t ∧ (1 ≤ m.toInt ∧ m.toInt ≤ 400) ∧ (1 ≤ sp.toInt ∧ sp.toInt ≤ 256)) → kv_V y_Md_fill d B (kv_PQ n S (MdQ I w ru tab (sFill len tb t m seed sp))) 0 0 n S (kC0 I w) 35 [(0, .ref w), (1, .int t), (2, .int m), (3, .int seed), (4, .int sp)] [] := by
    intro hn
    have e : sFill len tb t m seed sp = (-1, len, tb) := by
      unfold sFill
      rw [if_neg hn]
    rw [e]
    exact bl_Md_fill_35 ⟨rfl, rfl, rfl, hK0, hA⟩
  refine bp_Md_fill_0 (dc := 1) s0 (c_Md_isText (by omega) t) (by omega) (fun v J hv => ?_)
  obtain ⟨rfl, rfl⟩ := hv
  refine bl_Md_fill_9 (fun h => bad (fun q => kB_e0.mp h q.1)) (fun h => ?_)
  have ht : kT t := Classical.not_not.mp (fun q => h (kB_e0.mpr q))
  obtain ⟨hk, et⟩ := kT_of ht
  refine bp_Md_fill_12 (dc := 0) (c_Md_in m 1 400) (by omega) (fun v J hv => ?_)
  obtain ⟨rfl, rfl⟩ := hv
  refine bl_Md_fill_20 (fun h => bad (fun q => kB_e0.mp h ?_)) (fun h => ?_)
  · have := q.2.1; omega
  have hm := Classical.not_not.mp (fun q => h (kB_e0.mpr q))
  refine bp_Md_fill_23 (dc := 0) (c_Md_in sp 1 256) (by omega) (fun v J hv => ?_)
  obtain ⟨rfl, rfl⟩ := hv
  refine bl_Md_fill_32 (fun h => ?_) (fun h => bad (fun q => kB_e0.mp h ?_))
  rotate_left
  · have := q.2.2; omega
  have hs := Classical.not_not.mp (fun q => h (kB_e0.mpr q))
  rw [t1, t400] at hm
  rw [t1, t256] at hs
  obtain ⟨m1, m2, m3⟩ := tN_of (t := m) (by omega)
  obtain ⟨p1, p2, p3⟩ := tN_of (t := sp) (by omega)
  have e : sFill len tb t m seed sp = if 1500 < len (tN t) + tN m then (-2, len, tb) else (nI (len (tN t) + tN m), kU len (tN t) (len (tN t) + tN m), kU tb (tN t) (kApp (tb (tN t)) (len (tN t)) seed (tN sp))) := by
    unfold sFill
    rw [if_pos ⟨ht, ⟨by omega, by omega⟩, ⟨by omega, by omega⟩⟩]
  rw [e]
  show kv_V _ _ _ _ _ _ _ _ (kC0 I w) _ _ _
  generalize kC0 I w = I0 at *
  obtain ⟨hl, hz, hX⟩ := hA.2.2 (tN t) hk
  generalize hkk : tN t = k at *
  generalize hlk : len k = l at *
  have esum : nI l + m = nI (l + tN m) := by rw [m1, nI_add, tN_nI (by omega)]
  refine bl_Md_fill_37 s0 rfl s2 (j4 := k) ⟨et, hk, by omega⟩ (fun h => ?_) (fun h => ?_)
  rotate_left
  · rw [hz, esum, show (1500 : Int32) = nI 1500 from rfl, nI_leI (by omega) (by omega)] at h
    rw [if_pos (by omega)]
    exact bl_Md_fill_51 ⟨rfl, rfl, rfl, hK0, hA⟩
  rw [hz, esum, show (1500 : Int32) = nI 1500 from rfl, nI_leI (by omega) (by omega)] at h
  rw [if_neg (by omega)]
  refine bl_Md_fill_54 ?_
  have loop : ∀ (j i : Nat) (J : kv_IM), i + j = tN m → (∀ q, q ≠ w + 1 → q ≠ w + 2 → J q = I0 q) → J (w + 2) k = nI (l + i) → (∀ z, z ≠ k → J (w + 2) z = I0 (w + 2) z) → (∀ z, (z < 1500 * k ∨ 1500 * k + 1500 ≤ z) → J (w + 1) z = I0 (w + 1) z) → kTx J (w + 1) (1500 * k) (kApp (tb k) l seed (tN sp)) (l + i) → kv_V y_Md_fill d B (kv_PQ n S (MdQ I w ru tab (nI (l + tN m), kU len k (l + tN m), kU tb k (kApp (tb k) l seed (tN sp))))) 0 0 n S J 60 [(0, .ref w), (1, .int t), (2, .int m), (3, .int seed), (4, .int sp), (5, .int (kLcg seed i)), (6, .int (nI i))] [] := by
    intro j
    induction j with
    | zero =>
      intro i J hi hF hs2 hs3 hs1 hT
      have him : i = tN m := by omega
      subst him
      refine bl_Md_fill_60 (fun _ => ?_) (fun h => absurd (by rw [m1, tN_nI (by omega)]; exact nI_le (Nat.le_refl _) (by omega)) h)
      refine bl_Md_fill_118 s0 rfl s2 (j4 := k) ⟨et, hk, by omega⟩ ⟨rfl, rfl, by rw [hs2], MdK_tr hK0 ⟨fun q hq => hF q (by omega) (by omega), by rw [hF w (by omega) (by omega)], by rw [hF w (by omega) (by omega)]⟩, MdA_upd hA hk (fun i _ _ => by rw [hF w (by omega) (by omega)]) hs1 hs3 (hF _ (by omega) (by omega)) ⟨by omega, hs2, hT⟩⟩
    | succ j ih =>
      intro i J hi hF hs2 hs3 hs1 hT
      refine bl_Md_fill_60 (fun h => absurd h (by rw [m1]; exact nI_ge (by omega) (by omega))) (fun _ => ?_)
      have e5 : (1500 : Int32) * t + J (w + 2) k = nI (1500 * k + (l + i)) := by
        rw [et, hs2]
        show nI 1500 * nI k + nI (l + i) = _
        rw [pk_mul, nI_add]
      refine bl_Md_fill_66 s0 rfl rfl s2 (j5 := k) ⟨et, hk, by omega⟩ (by rw [p1]; exact nI_ne0 (by omega) (by omega)) s1 (j8 := 1500 * k + (l + i)) ⟨e5, by omega, by omega⟩ ?_
      have hlt : (kLcg seed (i + 1)).toBitVec.toNat / 65536 < 65536 := by
        have := (kLcg seed (i + 1)).toBitVec.isLt
        omega
      have ev : (Int32.toUInt32 (kLcg seed i * 1103515245 + 12345) >>> (Int32.toUInt32 16 &&& Int32.toUInt32 31)).toInt32 - (Int32.toUInt32 (kLcg seed i * 1103515245 + 12345) >>> (Int32.toUInt32 16 &&& Int32.toUInt32 31)).toInt32 / sp * sp = nI (kFb seed (tN sp) i) := by
        rw [kLcg_s, z_sh16, p1, pk_rem (by omega) (by omega) (by omega), tN_nI (by omega)]
        rfl
      rw [ev, kLcg_s, nI_1]
      have e2 : ∀ v, kv_up J (w + 1) (1500 * k + (l + i)) v (w + 2) k = nI (l + i) := by
        intro v
        unfold kv_up
        rw [if_neg (by omega)]
        exact hs2
      rw [e2, nI_1]
      refine ih (i + 1) _ (by omega) (fun q h1 h2 => ?_) ?_ (fun z hz => ?_) (fun z hz => ?_) (fun z hz => ?_)
      · rw [← hF q h1 h2]
        funext y
        simp [kv_up, h1, h2]
      · simp [kv_up, Nat.add_assoc]
      · rw [← hs3 z hz]
        unfold kv_up
        rw [if_pos rfl, if_neg hz, if_neg (by omega)]
      · rw [← hs1 z hz]
        unfold kv_up
        rw [if_neg (by omega), if_pos rfl, if_neg (by omega)]
      · have ez : kv_up (kv_up J (w + 1) (1500 * k + (l + i)) (nI (kFb seed (tN sp) i))) (w + 2) k (nI (l + i + 1)) (w + 1) (1500 * k + z) = if z = l + i then nI (kFb seed (tN sp) i) else J (w + 1) (1500 * k + z) := by
          unfold kv_up
          rw [if_neg (by omega), if_pos rfl]
          by_cases h : z = l + i
          · rw [if_pos h, if_pos (by omega)]
          · rw [if_neg h, if_neg (by omega)]
        rw [ez]
        by_cases h : z = l + i
        · rw [if_pos h, h]
          have e3 : kApp (tb k) l seed (tN sp) (l + i) = kFb seed (tN sp) i := by
            unfold kApp
            rw [if_neg (by omega), Nat.add_sub_cancel_left]
          rw [e3]
          refine ⟨rfl, ?_⟩
          unfold kFb
          have := Nat.mod_lt ((kLcg seed (i + 1)).toBitVec.toNat / 65536) (show 0 < tN sp by omega)
          omega
        · rw [if_neg h]
          exact hT z (by omega)
  have h00 := loop (tN m) 0 I0 (by omega) (fun _ _ _ => rfl) hz (fun _ _ => rfl) (fun _ _ => rfl) (fun i hi => by
    have e : kApp (tb k) l seed (tN sp) i = tb k i := by
      unfold kApp
      rw [if_pos (by omega)]
    rw [e]
    exact hX i (by omega))
  rw [kLcg] at h00
  exact h00
theorem c_Md_remove {d : Nat} {B : kv_B} {n : Nat} {S : kv_SM} {I : kv_IM} (hd : 2 ≤ d) {w : Nat} {ru : Nat → Nat} {tab : Nat → Int32} {len : Nat → Nat} {tb : Nat → Nat → Nat} (t a m : Int32) (hS : MdS S w) (hA' : MdA I w ru tab len tb) :
    kv_P y_Md_remove d B [.ref w, .int t, .int a, .int m] n S I (MdQ I w ru tab (sRem len tb t a m)) := by
  obtain ⟨s0, s1, s2, s3, -⟩ := id hS
  have t0 : (0 : Int32).toInt = 0 := by decide
  have hA := kC0_A hA'
  have hK0 := kC0_K (I := I) (w := w)
  refine kv_P.of (by decide +kernel) rfl (Nat.le_of_ble_eq_true rfl) ?_
  have bad : ¬ (kT t ∧ (0 ≤ a.toInt ∧ a.toInt ≤ len (tN t)) ∧ (0 ≤ m.toInt ∧ m.toInt ≤ len (tN t) - a.toInt)) → kv_V y_Md_remove d B (kv_PQ n S (MdQ I w ru tab (sRem len tb t a m))) 0 0 n S (kC0 I w) 42 [(0, .ref w), (1, .int t), (2, .int a), (3, .int m)] [] := by
    intro hn
    have e : sRem len tb t a m = (-1, len, tb) := by
      unfold sRem
      rw [if_neg hn]
    rw [e]
    exact bl_Md_remove_42 ⟨rfl, rfl, rfl, hK0, hA⟩
  refine bp_Md_remove_0 (dc := 1) s0 (c_Md_isText (by omega) t) (by omega) (fun v J hv => ?_)
  obtain ⟨rfl, rfl⟩ := hv
  refine bl_Md_remove_9 (fun h => bad (fun q => kB_e0.mp h q.1)) (fun h => ?_)
  have ht : kT t := Classical.not_not.mp (fun q => h (kB_e0.mpr q))
  obtain ⟨hk, et⟩ := kT_of ht
  show kv_V _ _ _ _ _ _ _ _ (kC0 I w) _ _ _
  generalize kC0 I w = I0 at *
  obtain ⟨hl, hz, hX⟩ := hA.2.2 (tN t) hk
  have hzI : (I0 (w + 2) (tN t)).toInt = len (tN t) := by rw [hz]; exact nI_toInt (by omega)
  refine bp_Md_remove_12 (dc := 0) s0 rfl s2 (j4 := tN t) ⟨et, hk, by omega⟩ (c_Md_in a 0 _) (by omega) (fun v J hv => ?_)
  obtain ⟨rfl, rfl⟩ := hv
  refine bl_Md_remove_23 (fun h => bad (fun q => kB_e0.mp h ?_)) (fun h => ?_)
  · have := q.2.1; omega
  have ha := Classical.not_not.mp (fun q => h (kB_e0.mpr q))
  rw [t0, hzI] at ha
  obtain ⟨a1, a2, a3⟩ := tN_of ha.1
  have hsub : (I0 (w + 2) (tN t) - a).toInt = len (tN t) - a.toInt := by
    rw [hz, a1, pk_sub (by omega), nI_toInt (by omega), ← a1]
    omega
  refine bp_Md_remove_26 (dc := 0) s0 rfl s2 (j4 := tN t) ⟨et, hk, by omega⟩ (c_Md_in m 0 _) (by omega) (fun v J hv => ?_)
  obtain ⟨rfl, rfl⟩ := hv
  refine bl_Md_remove_39 (fun h => ?_) (fun h => bad (fun q => kB_e0.mp h ?_))
  rotate_left
  · have := q.2.2; omega
  have hm := Classical.not_not.mp (fun q => h (kB_e0.mpr q))
  rw [t0, hsub] at hm
  obtain ⟨m1, m2, m3⟩ := tN_of hm.1
  have e : sRem len tb t a m = (nI (len (tN t) - tN m), kU len (tN t) (len (tN t) - tN m), kU tb (tN t) (kRem (tb (tN t)) (tN a) (tN m))) := by
    unfold sRem
    rw [if_pos ⟨ht, ⟨by omega, by omega⟩, by omega, by omega⟩]
  rw [e]
  refine bl_Md_remove_44 ?_
  generalize hkk : tN t = k at *
  generalize hlk : len k = l at *
  have loop : ∀ (j i : Nat) (J : kv_IM), i + tN m + j = l → tN a ≤ i → (∀ q, q ≠ w + 1 → J q = I0 q) → (∀ z, J (w + 1) z = if 1500 * k + tN a ≤ z ∧ z < 1500 * k + i then I0 (w + 1) (z + tN m) else I0 (w + 1) z) → kv_V y_Md_remove d B (kv_PQ n S (MdQ I w ru tab (nI (l - tN m), kU len k (l - tN m), kU tb k (kRem (tb k) (tN a) (tN m))))) 0 0 n S J 47 [(0, .ref w), (1, .int t), (2, .int a), (3, .int m), (4, .int (nI i))] [] := by
    intro j
    induction j with
    | zero =>
      intro i J hi hai hF hJ
      have hzJ : J (w + 2) k = nI l := by rw [hF _ (by omega)]; exact hz
      refine bl_Md_remove_47 s0 rfl s2 (j4 := k) ⟨et, hk, by omega⟩ (fun _ => ?_) (fun h => absurd (by rw [hzJ, m1, nI_add]; exact nI_le (by omega) (by omega)) h)
      have ev : J (w + 2) k - m = nI (l - tN m) := by
        rw [hzJ]
        have := pk_sub (a := l) (b := tN m) (by omega)
        rw [← m1] at this
        exact this
      refine bl_Md_remove_94 s0 rfl s2 (j4 := k) ⟨et, hk, by omega⟩ ?_
      rw [ev]
      refine ⟨rfl, rfl, by simp [kv_up], MdK_tr hK0 ⟨fun q hq => ?_, ?_, ?_⟩, MdA_upd hA hk (fun i h1 h2 => ?_) (fun z hz => ?_) (fun z hz => ?_) ?_ ⟨by omega, by simp [kv_up], fun z hz => ?_⟩⟩
      · rw [← hF q (by omega)]
        funext y
        unfold kv_up
        rw [if_neg (by omega)]
      · rw [← hF w (by omega)]
        unfold kv_up
        rw [if_neg (by omega)]
      · rw [← hF w (by omega)]
        unfold kv_up
        rw [if_neg (by omega)]
      · rw [← hF w (by omega)]
        unfold kv_up
        rw [if_neg (by omega)]
      · unfold kv_up
        rw [if_neg (by omega), hJ, if_neg (by omega)]
      · rw [← hF (w + 2) (by omega)]
        unfold kv_up
        rw [if_pos rfl, if_neg hz]
      · rw [← hF (w + 3) (by omega)]
        funext y
        unfold kv_up
        rw [if_neg (by omega)]
      · have : kv_up J (w + 2) k (nI (l - tN m)) (w + 1) (1500 * k + z) = J (w + 1) (1500 * k + z) := by
          unfold kv_up
          rw [if_neg (by omega)]
        rw [this, hJ]
        unfold kRem
        by_cases h1 : z < tN a
        · rw [if_pos h1, if_neg (by omega)]
          exact hX z (by omega)
        · rw [if_neg h1, if_pos (by omega), Nat.add_assoc]
          exact hX (z + tN m) (by omega)
    | succ j ih =>
      intro i J hi hai hF hJ
      have hzJ : J (w + 2) k = nI l := by rw [hF _ (by omega)]; exact hz
      have e5 : (1500 : Int32) * t + nI i = nI (1500 * k + i) := by
        rw [et]
        show nI 1500 * nI k + nI i = _
        rw [pk_mul, nI_add]
      refine bl_Md_remove_47 s0 rfl s2 (j4 := k) ⟨et, hk, by omega⟩ (fun h => absurd h (by rw [hzJ, m1, nI_add]; exact nI_ge (by omega) (by omega))) (fun _ => ?_)
      refine bl_Md_remove_60 s0 rfl s1 (j4 := 1500 * k + i + tN m) ⟨by rw [e5, m1, nI_add, tN_nI (by omega)], by omega, by omega⟩ (j5 := 1500 * k + i) ⟨e5, by omega, by omega⟩ ?_
      rw [nI_1]
      refine ih (i + 1) _ (by omega) (by omega) (fun q hq => ?_) (fun z => ?_)
      · rw [← hF q hq]
        funext y
        simp [kv_up, hq]
      · have eu : ∀ v, kv_up J (w + 1) (1500 * k + i) v (w + 1) z = if z = 1500 * k + i then v else J (w + 1) z := by
          intro v
          unfold kv_up
          rw [if_pos rfl]
        rw [eu, hJ, hJ]
        by_cases h : z = 1500 * k + i
        · rw [if_pos h, if_neg (by omega), if_pos (by omega), h]
        · rw [if_neg h]
          by_cases h2 : 1500 * k + tN a ≤ z ∧ z < 1500 * k + i
          · rw [if_pos h2, if_pos (by omega)]
          · rw [if_neg h2, if_neg (by omega)]
  have h00 := loop (l - tN a - tN m) (tN a) I0 (by omega) (Nat.le_refl _) (fun _ _ => rfl) (fun z => by rw [if_neg (by omega)])
  rw [← a1] at h00
  exact h00
theorem c_Md_copy {d : Nat} {B : kv_B} {n : Nat} {S : kv_SM} {I : kv_IM} (hd : 2 ≤ d) {w : Nat} {ru : Nat → Nat} {tab : Nat → Int32} {len : Nat → Nat} {tb : Nat → Nat → Nat} (t s : Int32) (hS : MdS S w) (hA' : MdA I w ru tab len tb) :
    kv_P y_Md_copy d B [.ref w, .int t, .int s] n S I (MdQ I w ru tab (sCopy len tb t s)) := by
  obtain ⟨s0, s1, s2, s3, -⟩ := id hS
  have hA := kC0_A hA'
  have hK0 := kC0_K (I := I) (w := w)
  refine kv_P.of (by decide +kernel) rfl (Nat.le_of_ble_eq_true rfl) ?_
  have bad : ¬ (kT t ∧ kT s) → kv_V y_Md_copy d B (kv_PQ n S (MdQ I w ru tab (sCopy len tb t s))) 0 0 n S (kC0 I w) 19 [(0, .ref w), (1, .int t), (2, .int s)] [] := by
    intro hn
    have e : sCopy len tb t s = (-1, len, tb) := by
      unfold sCopy
      rw [if_neg hn]
    rw [e]
    exact bl_Md_copy_19 ⟨rfl, rfl, rfl, hK0, hA⟩
  refine bp_Md_copy_0 (dc := 1) s0 (c_Md_isText (by omega) t) (by omega) (fun v J hv => ?_)
  obtain ⟨rfl, rfl⟩ := hv
  refine bl_Md_copy_9 (fun h => bad (fun q => kB_e0.mp h q.1)) (fun h => ?_)
  have ht : kT t := Classical.not_not.mp (fun q => h (kB_e0.mpr q))
  obtain ⟨hk, et⟩ := kT_of ht
  refine bp_Md_copy_12 (dc := 1) (c_Md_isText (by omega) s) (by omega) (fun v J hv => ?_)
  obtain ⟨rfl, rfl⟩ := hv
  refine bl_Md_copy_16 (fun h => ?_) (fun h => bad (fun q => kB_e0.mp h q.2))
  have hs : kT s := Classical.not_not.mp (fun q => h (kB_e0.mpr q))
  obtain ⟨hk', es⟩ := kT_of hs
  have e : sCopy len tb t s = (nI (len (tN s)), kU len (tN t) (len (tN s)), kU tb (tN t) (tb (tN s))) := by
    unfold sCopy
    rw [if_pos ⟨ht, hs⟩]
  rw [e]
  refine bl_Md_copy_21 ?_
  show kv_V _ _ _ _ _ _ _ _ (kC0 I w) _ _ _
  generalize kC0 I w = I0 at *
  obtain ⟨hl, hz, hX⟩ := hA.2.2 (tN s) hk'
  generalize hkk : tN t = k at *
  generalize hkk' : tN s = k' at *
  generalize hlk : len k' = l at *
  have loop : ∀ (j i : Nat) (J : kv_IM), i + j = l → (∀ q, q ≠ w + 1 → J q = I0 q) → (∀ z, J (w + 1) z = if 1500 * k ≤ z ∧ z < 1500 * k + i then I0 (w + 1) (z - 1500 * k + 1500 * k') else I0 (w + 1) z) → kv_V y_Md_copy d B (kv_PQ n S (MdQ I w ru tab (nI l, kU len k l, kU tb k (tb k')))) 0 0 n S J 23 [(0, .ref w), (1, .int t), (2, .int s), (3, .int (nI i))] [] := by
    intro j
    induction j with
    | zero =>
      intro i J hi hF hJ
      have hil : i = l := by omega
      subst hil
      have hzJ : J (w + 2) k' = nI i := by rw [hF _ (by omega)]; exact hz
      refine bl_Md_copy_23 s0 rfl s2 (j4 := k') ⟨es, hk', by omega⟩ (fun _ => ?_) (fun h => absurd (by rw [hzJ]; exact nI_le (Nat.le_refl _) (by omega)) h)
      refine bl_Md_copy_63 s0 rfl s2 (j4 := k') ⟨es, hk', by omega⟩ (j5 := k) ⟨et, hk, by omega⟩ ?_
      rw [hzJ]
      refine ⟨rfl, rfl, by simp [kv_up], MdK_tr hK0 ⟨fun q hq => ?_, ?_, ?_⟩, MdA_upd hA hk (fun i h1 h2 => ?_) (fun z hz => ?_) (fun z hz => ?_) ?_ ⟨by omega, by simp [kv_up], fun z hz => ?_⟩⟩
      · rw [← hF q (by omega)]
        funext y
        unfold kv_up
        rw [if_neg (by omega)]
      · rw [← hF w (by omega)]
        unfold kv_up
        rw [if_neg (by omega)]
      · rw [← hF w (by omega)]
        unfold kv_up
        rw [if_neg (by omega)]
      · rw [← hF w (by omega)]
        unfold kv_up
        rw [if_neg (by omega)]
      · unfold kv_up
        rw [if_neg (by omega), hJ, if_neg (by omega)]
      · rw [← hF (w + 2) (by omega)]
        unfold kv_up
        rw [if_pos rfl, if_neg hz]
      · rw [← hF (w + 3) (by omega)]
        funext y
        unfold kv_up
        rw [if_neg (by omega)]
      · have : kv_up J (w + 2) k (nI i) (w + 1) (1500 * k + z) = J (w + 1) (1500 * k + z) := by
          unfold kv_up
          rw [if_neg (by omega)]
        rw [this, hJ, if_pos (by omega), show 1500 * k + z - 1500 * k + 1500 * k' = 1500 * k' + z by omega]
        exact hX z hz
    | succ j ih =>
      intro i J hi hF hJ
      have hzJ : J (w + 2) k' = nI l := by rw [hF _ (by omega)]; exact hz
      have e5 : (1500 : Int32) * t + nI i = nI (1500 * k + i) := by
        rw [et]
        show nI 1500 * nI k + nI i = _
        rw [pk_mul, nI_add]
      have e6 : (1500 : Int32) * s + nI i = nI (1500 * k' + i) := by
        rw [es]
        show nI 1500 * nI k' + nI i = _
        rw [pk_mul, nI_add]
      refine bl_Md_copy_23 s0 rfl s2 (j4 := k') ⟨es, hk', by omega⟩ (fun h => absurd h (by rw [hzJ]; exact nI_ge (by omega) (by omega))) (fun _ => ?_)
      refine bl_Md_copy_33 s0 rfl s1 (j4 := 1500 * k' + i) ⟨e6, by omega, by omega⟩ (j5 := 1500 * k + i) ⟨e5, by omega, by omega⟩ ?_
      rw [nI_1]
      refine ih (i + 1) _ (by omega) (fun q hq => ?_) (fun z => ?_)
      · rw [← hF q hq]
        funext y
        simp [kv_up, hq]
      · have eu : ∀ v, kv_up J (w + 1) (1500 * k + i) v (w + 1) z = if z = 1500 * k + i then v else J (w + 1) z := by
          intro v
          unfold kv_up
          rw [if_pos rfl]
        rw [eu, hJ, hJ]
        by_cases h : z = 1500 * k + i
        · rw [if_pos h, if_neg (by omega), if_pos (by omega), h]
          congr 1
          omega
        · rw [if_neg h]
          by_cases h2 : 1500 * k ≤ z ∧ z < 1500 * k + i
          · rw [if_pos h2, if_pos (by omega)]
          · rw [if_neg h2, if_neg (by omega)]
  exact loop l 0 I0 (by omega) (fun _ _ => rfl) (fun z => by rw [if_neg (by omega)])
abbrev MdR (I : kv_IM) (w : Nat) (ru : Nat → Nat) (tab : Nat → Int32) (len : Nat → Nat) (tb : Nat → Nat → Nat) (r : Value) : Option Value → kv_IM → Prop := fun v J => v = some r ∧ MdK w I J ∧ MdA J w ru tab len tb
theorem c_Md_size {d : Nat} {B : kv_B} {n : Nat} {S : kv_SM} {I : kv_IM} (hd : 2 ≤ d) {w : Nat} {ru : Nat → Nat} {tab : Nat → Int32} {len : Nat → Nat} {tb : Nat → Nat → Nat} (t : Int32) (hS : MdS S w) (hA' : MdA I w ru tab len tb) :
    kv_P y_Md_size d B [.ref w, .int t] n S I (MdR I w ru tab len tb (.int (sSize len t))) := by
  obtain ⟨s0, s1, s2, s3, -⟩ := id hS
  have hA := kC0_A hA'
  refine kv_P.of (by decide +kernel) rfl (Nat.le_of_ble_eq_true rfl) ?_
  refine bp_Md_size_0 (dc := 1) s0 (c_Md_isText (by omega) t) (by omega) (fun v J hv => ?_)
  obtain ⟨rfl, rfl⟩ := hv
  refine bl_Md_size_9 (fun h => ?_) (fun h => ?_)
  · refine bl_Md_size_21 (bl_Md_size_22 ⟨rfl, rfl, ?_, kC0_K, hA⟩)
    unfold sSize
    rw [if_neg (kB_e0.mp h)]
  · have ht : kT t := Classical.not_not.mp (fun q => h (kB_e0.mpr q))
    obtain ⟨hk, et⟩ := kT_of ht
    refine bl_Md_size_12 s0 rfl s2 (j4 := tN t) ⟨et, hk, by omega⟩ (bl_Md_size_22 ⟨rfl, rfl, ?_, kC0_K, hA⟩)
    unfold sSize
    rw [if_pos ht]
    exact congrArg (fun z => some (Value.int z)) (hA.2.2 _ hk).2.1
theorem c_Md_byteAt {d : Nat} {B : kv_B} {n : Nat} {S : kv_SM} {I : kv_IM} (hd : 2 ≤ d) {w : Nat} {ru : Nat → Nat} {tab : Nat → Int32} {len : Nat → Nat} {tb : Nat → Nat → Nat} (t i : Int32) (hS : MdS S w) (hA' : MdA I w ru tab len tb) :
    kv_P y_Md_byteAt d B [.ref w, .int t, .int i] n S I (MdR I w ru tab len tb (.int (sByte len tb t i))) := by
  obtain ⟨s0, s1, s2, s3, -⟩ := id hS
  have hA := kC0_A hA'
  have hK0 := kC0_K (I := I) (w := w)
  have t0 : (0 : Int32).toInt = 0 := by decide
  refine kv_P.of (by decide +kernel) rfl (Nat.le_of_ble_eq_true rfl) ?_
  refine bp_Md_byteAt_0 (dc := 1) s0 (c_Md_isText (by omega) t) (by omega) (fun v J hv => ?_)
  obtain ⟨rfl, rfl⟩ := hv
  show kv_V _ _ _ _ _ _ _ _ (kC0 I w) _ _ _
  generalize kC0 I w = I0 at *
  have bad : ¬ (kT t ∧ (0 ≤ i.toInt ∧ i.toInt < len (tN t))) → kv_V y_Md_byteAt d B (kv_PQ n S (MdR I w ru tab len tb (.int (sByte len tb t i)))) 0 0 n S I0 43 [(0, .ref w), (1, .int t), (2, .int i)] [] := by
    intro hn
    refine bl_Md_byteAt_43 (bl_Md_byteAt_44 ⟨rfl, rfl, ?_, hK0, hA⟩)
    unfold sByte
    rw [if_neg hn]
  refine bl_Md_byteAt_9 (fun h => bad (fun q => kB_e0.mp h q.1)) (fun h => ?_)
  have ht : kT t := Classical.not_not.mp (fun q => h (kB_e0.mpr q))
  obtain ⟨hk, et⟩ := kT_of ht
  obtain ⟨hl, hz, hX⟩ := hA.2.2 (tN t) hk
  have hzI : (I0 (w + 2) (tN t) - 1).toInt = (len (tN t) : Int) - 1 := by
    rw [hz]
    show (nI (len (tN t)) - nI 1).toInt = _
    rw [pk_sub_toInt (by omega) (by omega)]
    rfl
  refine bp_Md_byteAt_12 (dc := 0) s0 rfl s2 (j4 := tN t) ⟨et, hk, by omega⟩ (c_Md_in i 0 _) (by omega) (fun v J hv => ?_)
  obtain ⟨rfl, rfl⟩ := hv
  refine bl_Md_byteAt_25 (fun h => bad (fun q => kB_e0.mp h ?_)) (fun h => ?_)
  · have := q.2; omega
  have hi := Classical.not_not.mp (fun q => h (kB_e0.mpr q))
  rw [t0, hzI] at hi
  obtain ⟨i1, i2, i3⟩ := tN_of hi.1
  refine bl_Md_byteAt_28 s0 rfl s1 (j4 := 1500 * tN t + tN i) ⟨?_, by omega, by omega⟩ (bl_Md_byteAt_44 ⟨rfl, rfl, ?_, hK0, hA⟩)
  · rw [et, i1, tN_nI (by omega), tN_nI (by omega)]
    show nI 1500 * nI _ + nI _ = _
    rw [pk_mul, nI_add]
  · unfold sByte
    rw [if_pos ⟨ht, by omega, by omega⟩, (hX (tN i) (by omega)).1]
