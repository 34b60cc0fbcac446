def MdT (I : kv_IM) (w t : Nat) (f : Nat → Nat) (l : Nat) : Prop := l ≤ 1500 ∧ I (w + 2) t = nI l ∧ kTx I (w + 1) (1500 * t) f l
def MdA (I : kv_IM) (w : Nat) (ru : Nat → Nat) (tab : Nat → Int32) (len : Nat → Nat) (tb : Nat → Nat → Nat) : Prop := RuI I w 4 ru ∧ (∀ i, i < 256 → I (w + 3) i = tab i) ∧ ∀ t, t < 4 → MdT I w t (tb t) (len t)
def MdK (w : Nat) (I J : kv_IM) : Prop := kFr w (w + 5) I J ∧ J w 15 = I w 15 ∧ J w 16 = I w 16
theorem MdK_tr {w : Nat} {I J K : kv_IM} (h1 : MdK w I J) (h2 : MdK w J K) : MdK w I K := ⟨kFr_tr h1.1 h2.1, h2.2.1.trans h1.2.1, h2.2.2.trans h1.2.2⟩
theorem MdK_rf {w : Nat} {I : kv_IM} : MdK w I I := ⟨fun _ _ => rfl, rfl, rfl⟩
theorem MdA_of {I J : kv_IM} {w : Nat} {ru : Nat → Nat} {tab : Nat → Int32} {len : Nat → Nat} {tb : Nat → Nat → Nat} (h : MdA I w ru tab len tb) (e0 : ∀ i, 4 ≤ i → i < 10 → J w i = I w i) (e : ∀ a, w + 1 ≤ a → a ≤ w + 3 → J a = I a) : MdA J w ru tab len tb := by
  obtain ⟨h1, h2, h3⟩ := h
  refine ⟨fun j hj => by rw [e0 _ (by omega) (by omega)]; exact h1 j hj, fun i hi => by rw [e (w + 3) (by omega) (by omega)]; exact h2 i hi, fun t ht => ?_⟩
  obtain ⟨g1, g2, g3⟩ := h3 t ht
  exact ⟨g1, by rw [e (w + 2) (by omega) (by omega)]; exact g2, kTx_of g3 (e _ (by omega) (by omega))⟩
theorem MdA_upd {I J : kv_IM} {w : Nat} {ru : Nat → Nat} {tab : Nat → Int32} {len : Nat → Nat} {tb : Nat → Nat → Nat} {k l' : Nat} {f' : Nat → Nat} (h : MdA I w ru tab len tb) (hk : k < 4) (e0 : ∀ i, 4 ≤ i → i < 10 → J w i = I w i) (e1 : ∀ i, (i < 1500 * k ∨ 1500 * k + 1500 ≤ i) → J (w + 1) i = I (w + 1) i) (e2 : ∀ i, i ≠ k → J (w + 2) i = I (w + 2) i) (e3 : J (w + 3) = I (w + 3)) (hT : MdT J w k f' l') : MdA J w ru tab (kU len k l') (kU tb k f') := by
  obtain ⟨h1, h2, h3⟩ := h
  refine ⟨fun j hj => by rw [e0 _ (by omega) (by omega)]; exact h1 j hj, fun i hi => by rw [e3]; exact h2 i hi, fun t ht => ?_⟩
  by_cases e : t = k
  · subst e
    rw [kU_s, kU_s]
    exact hT
  · rw [kU_n e, kU_n e]
    obtain ⟨g1, g2, g3⟩ := h3 t ht
    refine ⟨g1, by rw [e2 t e]; exact g2, fun i hi => ?_⟩
    rw [e1 _ (by omega)]
    exact g3 i hi
def kC0 (I : kv_IM) (w : Nat) : kv_IM := kv_up I w 0 0
theorem kC0_ne {I : kv_IM} {w a : Nat} (h : a ≠ w) : kC0 I w a = I a := by
  funext i
  simp [kC0, kv_up, h]
theorem kC0_i {I : kv_IM} {w i : Nat} (h : i ≠ 0) : kC0 I w w i = I w i := by simp [kC0, kv_up, h]
theorem kC0_K {I : kv_IM} {w : Nat} : MdK w I (kC0 I w) := ⟨fun a ha => kC0_ne (by omega), kC0_i (by omega), kC0_i (by omega)⟩
theorem kC0_A {I : kv_IM} {w : Nat} {ru : Nat → Nat} {tab : Nat → Int32} {len : Nat → Nat} {tb : Nat → Nat → Nat} (h : MdA I w ru tab len tb) : MdA (kC0 I w) w ru tab len tb := MdA_of h (fun i h1 h2 => kC0_i (by omega)) (fun a h1 h2 => kC0_ne (by omega))
abbrev MdQ (I : kv_IM) (w : Nat) (ru : Nat → Nat) (tab : Nat → Int32) (R : kR3) : Option Value → kv_IM → Prop := fun v J => v = some (.int R.1) ∧ MdK w I J ∧ MdA J w ru tab R.2.1 R.2.2
theorem c_Md_seed {d : Nat} {B : kv_B} {n : Nat} {S : kv_SM} {I : kv_IM} (hd : 1 ≤ d) {w : Nat} {ru : Nat → Nat} {tab : Nat → Int32} {len : Nat → Nat} {tb : Nat → Nat → Nat} (seed : Int32) (hS : MdS S w) (hA : MdA I w ru tab len tb) :
    kv_P y_Md_seed d B [.ref w, .int seed] n S I (fun v J => v = some (.int 1) ∧ MdK w I J ∧ MdA J w ru (kTb seed) len tb) := by
  refine kv_P.of (by decide +kernel) rfl (Nat.le_of_ble_eq_true rfl) ?_
  refine bp_Md_seed_0 (dc := 0) hS.1 (c_Md_layTable seed hS.1 hS.2.2.2.1) (by omega) (fun v J hv => ?_)
  obtain ⟨rfl, rfl⟩ := hv
  obtain ⟨a1, a2, a3⟩ := kC0_A hA
  refine bl_Md_seed_10 ⟨rfl, rfl, rfl, ⟨fun a ha => ?_, ?_, ?_⟩, RuI_of a1 (kFz_ne (by omega)), fun i hi => kFz_at hi, fun t ht => ?_⟩
  · rw [kFz_ne (by omega)]
    exact kC0_ne (by omega)
  · rw [kFz_ne (by omega)]
    exact kC0_i (by omega)
  · rw [kFz_ne (by omega)]
    exact kC0_i (by omega)
  · obtain ⟨g1, g2, g3⟩ := a3 t ht
    exact ⟨g1, by rw [kFz_ne (by omega)]; exact g2, kTx_of g3 (kFz_ne (by omega))⟩
theorem c_Md_rule {d : Nat} {B : kv_B} {n : Nat} {S : kv_SM} {I : kv_IM} (hd : 1 ≤ d) {w : Nat} {ru : Nat → Nat} {tab : Nat → Int32} {len : Nat → Nat} {tb : Nat → Nat → Nat} (m lo hi b l r : Int32) (hS : MdS S w) (hA : MdA I w ru tab len tb) :
    kv_P y_Md_rule d B [.ref w, .int m, .int lo, .int hi, .int b, .int l, .int r] n S I (fun v J => v = some (.int (if RuV m lo hi b l r then 1 else -1)) ∧ MdK w I J ∧ MdA J w (if RuV m lo hi b l r then ruOf m lo hi b l r else ru) tab len tb) := by
  have t0 : (0 : Int32).toInt = 0 := by decide
  have t1 : (1 : Int32).toInt = 1 := by decide
  have t3 : (3 : Int32).toInt = 3 := by decide
  have t9 : (9 : Int32).toInt = 9 := by decide
  have t16 : (16 : Int32).toInt = 16 := by decide
  have t200 : (200 : Int32).toInt = 200 := by decide
  have t600 : (600 : Int32).toInt = 600 := by decide
  have hA0 := kC0_A hA
  refine kv_P.of (by decide +kernel) rfl (Nat.le_of_ble_eq_true rfl) ?_
  have bad : ¬ RuV m lo hi b l r → kv_V y_Md_rule d B (kv_PQ n S (fun v J => v = some (.int (if RuV m lo hi b l r then 1 else -1)) ∧ MdK w I J ∧ MdA J w (if RuV m lo hi b l r then ruOf m lo hi b l r else ru) tab len tb)) 0 0 n S (kC0 I w) 69 [(0, .ref w), (1, .int m), (2, .int lo), (3, .int hi), (4, .int b), (5, .int l), (6, .int r)] [] := by
    intro hn
    rw [if_neg hn, if_neg hn]
    exact bl_Md_rule_69 ⟨rfl, rfl, rfl, kC0_K, hA0⟩
  refine bp_Md_rule_0 (dc := 0) hS.1 (c_Md_in m 0 3) (by omega) (fun v J hv => ?_)
  obtain ⟨rfl, rfl⟩ := hv
  refine bl_Md_rule_11 (fun h => bad (fun q => kB_e0.mp h ?_)) (fun h => ?_)
  · have := q.1; omega
  have g1 := Classical.not_not.mp (fun q => h (kB_e0.mpr q))
  refine bp_Md_rule_14 (dc := 0) (c_Md_in lo 1 200) (by omega) (fun v J hv => ?_)
  obtain ⟨rfl, rfl⟩ := hv
  refine bl_Md_rule_22 (fun h => bad (fun q => kB_e0.mp h ?_)) (fun h => ?_)
  · have := q.2.1; omega
  have g2 := Classical.not_not.mp (fun q => h (kB_e0.mpr q))
  refine bp_Md_rule_25 (dc := 0) (c_Md_in hi lo 600) (by omega) (fun v J hv => ?_)
  obtain ⟨rfl, rfl⟩ := hv
  refine bl_Md_rule_33 (fun h => bad (fun q => kB_e0.mp h ?_)) (fun h => ?_)
  · have := q.2.2.1; omega
  have g3 := Classical.not_not.mp (fun q => h (kB_e0.mpr q))
  refine bp_Md_rule_36 (dc := 0) (c_Md_in b 1 9) (by omega) (fun v J hv => ?_)
  obtain ⟨rfl, rfl⟩ := hv
  refine bl_Md_rule_44 (fun h => bad (fun q => kB_e0.mp h ?_)) (fun h => ?_)
  · have := q.2.2.2.1; omega
  have g4 := Classical.not_not.mp (fun q => h (kB_e0.mpr q))
  refine bp_Md_rule_47 (dc := 0) (c_Md_in l 0 b) (by omega) (fun v J hv => ?_)
  obtain ⟨rfl, rfl⟩ := hv
  refine bl_Md_rule_55 (fun h => bad (fun q => kB_e0.mp h ?_)) (fun h => ?_)
  · have := q.2.2.2.2.1; omega
  have g5 := Classical.not_not.mp (fun q => h (kB_e0.mpr q))
  refine bp_Md_rule_58 (dc := 0) (c_Md_in r 1 16) (by omega) (fun v J hv => ?_)
  obtain ⟨rfl, rfl⟩ := hv
  refine bl_Md_rule_66 (fun h => ?_) (fun h => bad (fun q => kB_e0.mp h ?_))
  rotate_left
  · have := q.2.2.2.2.2.1; omega
  have g6 := Classical.not_not.mp (fun q => h (kB_e0.mpr q))
  rw [t0, t3] at g1
  rw [t1, t200] at g2
  rw [t600] at g3
  rw [t1, t9] at g4
  rw [t0] at g5
  rw [t1, t16] at g6
  obtain ⟨z1, -⟩ := z_most (hi := hi) (r := r) (by omega) (by omega)
  have bad2 : ¬ RuV m lo hi b l r → kv_V y_Md_rule d B (kv_PQ n S (fun v J => v = some (.int (if RuV m lo hi b l r then 1 else -1)) ∧ MdK w I J ∧ MdA J w (if RuV m lo hi b l r then ruOf m lo hi b l r else ru) tab len tb)) 0 0 n S (kC0 I w) 90 [(0, .ref w), (1, .int m), (2, .int lo), (3, .int hi), (4, .int b), (5, .int l), (6, .int r), (7, .int (hi - (hi - hi / r * r)))] [] := by
    intro hn
    rw [if_neg hn, if_neg hn]
    exact bl_Md_rule_90 ⟨rfl, rfl, rfl, kC0_K, hA0⟩
  refine bl_Md_rule_71 (fun q => by have := g6.1; rw [q, t0] at this; omega) (fun h => ?_) (fun h => ?_)
  · have h := i_lt.mp h
    exact bad2 (fun q => by have := q.2.2.2.2.2.2; omega)
  have h := i_nlt.mp h
  refine bl_Md_rule_85 (fun h0 => ?_) (fun h0 => ?_)
  rotate_left
  · rw [i_eq, t0] at h0
    exact bad2 (fun q => by have := q.2.2.2.2.2.2; omega)
  have hv : RuV m lo hi b l r := ⟨⟨by omega, by omega⟩, ⟨by omega, by omega⟩, ⟨by omega, by omega⟩, ⟨by omega, by omega⟩, ⟨by omega, by omega⟩, ⟨by omega, by omega⟩, by omega⟩
  rw [if_pos hv, if_pos hv]
  obtain ⟨a1, a2, a3⟩ := hA0
  refine bl_Md_rule_92 hS.1 ⟨rfl, rfl, rfl, ⟨fun a ha => ?_, ?_, ?_⟩, kRu6_ru (I := kC0 I w) (a := w) (k0 := 4) hv, fun i hi9 => ?_, fun t ht => ?_⟩
  · exact (kRu6_ne (I := kC0 I w) (a := w) (k0 := 4) (by omega)).trans (kC0_ne (by omega))
  · exact (kRu6_o (I := kC0 I w) (a := w) (k0 := 4) (by omega)).trans (kC0_i (by omega))
  · exact (kRu6_o (I := kC0 I w) (a := w) (k0 := 4) (by omega)).trans (kC0_i (by omega))
  · exact (congrFun (kRu6_ne (I := kC0 I w) (a := w) (k0 := 4) (q := w + 3) (v1 := m) (v2 := lo) (v3 := hi) (v4 := b) (v5 := l) (v6 := r) (by omega)) i).trans (a2 i hi9)
  · obtain ⟨g1, g2, g3⟩ := a3 t ht
    have e2 := kRu6_ne (I := kC0 I w) (a := w) (k0 := 4) (q := w + 2) (v1 := m) (v2 := lo) (v3 := hi) (v4 := b) (v5 := l) (v6 := r) (by omega)
    have e1 := kRu6_ne (I := kC0 I w) (a := w) (k0 := 4) (q := w + 1) (v1 := m) (v2 := lo) (v3 := hi) (v4 := b) (v5 := l) (v6 := r) (by omega)
    exact ⟨g1, (congrFun e2 t).trans g2, kTx_of g3 e1⟩
theorem c_Md_insertAt {d : Nat} {B : kv_B} {n : Nat} {S : kv_SM} {I : kv_IM} (hd : 2 ≤ d) {w : Nat} {ru : Nat → Nat} {tab : Nat → Int32} {len : Nat → Nat} {tb : Nat → Nat → Nat} (t a b : Int32) (hS : MdS S w) (hA : MdA I w ru tab len tb) :
    kv_P y_Md_insertAt d B [.ref w, .int t, .int a, .int b] n S I (MdQ I w ru tab (sIns len tb t a b)) := by
  obtain ⟨s0, s1, s2, s3, -⟩ := id hS
  have t0 : (0 : Int32).toInt = 0 := by decide
  have t255 : (255 : Int32).toInt = 255 := by decide
  refine kv_P.of (by decide +kernel) rfl (Nat.le_of_ble_eq_true rfl) ?_
  have bad : ¬ (kT t ∧ (0 ≤ a.toInt ∧ a.toInt ≤ len (tN t)) ∧ (0 ≤ b.toInt ∧ b.toInt < 256)) → kv_V y_Md_insertAt d B (kv_PQ n S (MdQ I w ru tab (sIns len tb t a b))) 0 0 n S I 32 [(0, .ref w), (1, .int t), (2, .int a), (3, .int b)] [] := by
    intro hn
    have e : sIns len tb t a b = (-1, len, tb) := by
      unfold sIns
      rw [if_neg hn]
    rw [e]
    exact bl_Md_insertAt_32 ⟨rfl, rfl, rfl, MdK_rf, hA⟩
  refine bp_Md_insertAt_0 (dc := 1) (c_Md_isText (by omega) t) (by omega) (fun v J hv => ?_)
  obtain ⟨rfl, rfl⟩ := hv
  refine bl_Md_insertAt_4 (fun h => bad (fun q => kB_e0.mp h q.1)) (fun h => ?_)
  have ht : kT t := Classical.not_not.mp (fun q => h (kB_e0.mpr q))
  obtain ⟨hk, et⟩ := kT_of ht
  obtain ⟨hl, hz, hX⟩ := hA.2.2 (tN t) hk
  have hzI : (I (w + 2) (tN t)).toInt = len (tN t) := by rw [hz]; exact nI_toInt (by omega)
  refine bp_Md_insertAt_7 (dc := 0) s0 rfl s2 (j4 := tN t) ⟨et, hk, by omega⟩ (c_Md_in a 0 _) (by omega) (fun v J hv => ?_)
  obtain ⟨rfl, rfl⟩ := hv
  refine bl_Md_insertAt_18 (fun h => bad (fun q => kB_e0.mp h ?_)) (fun h => ?_)
  · have := q.2.1; omega
  have ha := Classical.not_not.mp (fun q => h (kB_e0.mpr q))
  rw [t0, hzI] at ha
  obtain ⟨a1, a2, a3⟩ := tN_of ha.1
  refine bp_Md_insertAt_21 (dc := 0) (c_Md_in b 0 255) (by omega) (fun v J hv => ?_)
  obtain ⟨rfl, rfl⟩ := hv
  refine bl_Md_insertAt_29 (fun h => ?_) (fun h => bad (fun q => kB_e0.mp h ?_))
  rotate_left
  · have := q.2.2; omega
  have hb := Classical.not_not.mp (fun q => h (kB_e0.mpr q))
  rw [t0, t255] at hb
  obtain ⟨b1, b2, b3⟩ := tN_of hb.1
  have e : sIns len tb t a b = if len (tN t) = 1500 then (-2, len, tb) else (nI (len (tN t) + 1), kU len (tN t) (len (tN t) + 1), kU tb (tN t) (kIns (tb (tN t)) (tN a) (tN b))) := by
    unfold sIns
    rw [if_pos ⟨ht, ⟨by omega, by omega⟩, by omega, by omega⟩]
  rw [e]
  refine bl_Md_insertAt_34 s0 rfl s2 (j4 := tN t) ⟨et, hk, by omega⟩ (fun h => ?_) (fun h => ?_)
  rotate_left
  · rw [hz] at h
    have h15 := (nI_eq (b := 1500) (by omega) (by omega)).mp h
    rw [if_pos h15]
    exact bl_Md_insertAt_46 ⟨rfl, rfl, rfl, MdK_rf, hA⟩
  have h15 : ¬ len (tN t) = 1500 := fun q => h (by rw [hz, q]; rfl)
  rw [if_neg h15]
  refine bl_Md_insertAt_49 s0 rfl s2 (j4 := tN t) ⟨et, hk, by omega⟩ ?_
  rw [hz]
  generalize hk4 : tN t = k at *
  generalize len k = l at *
  have loop : ∀ (j i : Nat) (J : kv_IM), tN a + j = i → i ≤ l → (∀ q, q ≠ w + 1 → J q = I q) → (∀ z, J (w + 1) z = if 1500 * k + i < z ∧ z ≤ 1500 * k + l then I (w + 1) (z - 1) else I (w + 1) z) → kv_V y_Md_insertAt d B (kv_PQ n S (MdQ I w ru tab (nI (l + 1), kU len k (l + 1), kU tb k (kIns (tb k) (tN a) (tN b))))) 0 0 n S J 57 [(0, .ref w), (1, .int t), (2, .int a), (3, .int b), (4, .int (nI i))] [] := by
    intro j
    induction j with
    | zero =>
      intro i J hi hil hF hJ
      have hia : i = tN a := by omega
      subst hia
      refine bl_Md_insertAt_57 (fun _ => ?_) (fun h => absurd (by rw [a1, tN_nI (by omega)]; exact nI_le (Nat.le_refl _) (by omega)) h)
      have e97 : kv_up J (w + 1) (1500 * k + tN a) b (w + 2) k = nI l := by
        unfold kv_up
        rw [if_neg (by omega), hF _ (by omega)]
        exact hz
      refine bl_Md_insertAt_97 s0 rfl s1 (j4 := 1500 * k + tN a) ⟨by rw [et, a1, tN_nI (by omega)]; show nI 1500 * nI k + nI (tN a) = _; rw [pk_mul, nI_add], by omega, by omega⟩ rfl s2 (j7 := k) ⟨et, hk, by omega⟩ ⟨rfl, rfl, ?_, ⟨fun q hq => ?_, ?_, ?_⟩, MdA_upd hA hk (fun i h1 h2 => ?_) (fun i hi => ?_) (fun i hi => ?_) ?_ ⟨by omega, ?_, fun i hi => ?_⟩⟩
      · rw [e97, nI_1]
        simp [kv_up]
      · rw [← hF q (by omega)]
        funext z
        unfold kv_up
        rw [if_neg (by omega), if_neg (by omega)]
      · rw [← hF w (by omega)]
        unfold kv_up
        rw [if_neg (by omega), if_neg (by omega)]
      · rw [← hF w (by omega)]
        unfold kv_up
        rw [if_neg (by omega), if_neg (by omega)]
      · rw [← hF w (by omega)]
        unfold kv_up
        rw [if_neg (by omega), if_neg (by omega)]
      · unfold kv_up
        rw [if_neg (by omega), if_pos rfl, if_neg (by omega), hJ, if_neg (by omega)]
      · rw [← hF (w + 2) (by omega)]
        unfold kv_up
        rw [if_pos rfl, if_neg hi, if_neg (by omega)]
      · rw [← hF (w + 3) (by omega)]
        funext z
        unfold kv_up
        rw [if_neg (by omega), if_neg (by omega)]
      · rw [e97, nI_1]
        simp [kv_up]
      · unfold kIns
        have ew : ∀ v, kv_up (kv_up J (w + 1) (1500 * k + tN a) b) (w + 2) k v (w + 1) (1500 * k + i) = if i = tN a then b else J (w + 1) (1500 * k + i) := by
          intro v
          unfold kv_up
          rw [if_neg (by omega), if_pos rfl]
          by_cases h : i = tN a
          · rw [if_pos h, if_pos (by omega)]
          · rw [if_neg h, if_neg (by omega)]
        rw [ew, hJ]
        by_cases h1 : i < tN a
        · rw [if_pos h1, if_neg (by omega), if_neg (by omega)]
          exact hX i (by omega)
        · rw [if_neg h1]
          by_cases h2 : i = tN a
          · rw [if_pos h2, if_pos h2]
            exact ⟨b1, by omega⟩
          · rw [if_neg h2, if_neg h2, if_pos (by omega)]
            have := hX (i - 1) (by omega)
            rw [show 1500 * k + (i - 1) = 1500 * k + i - 1 by omega] at this
            exact this
    | succ j ih =>
      intro i J hi hil hF hJ
      refine bl_Md_insertAt_57 (fun h => absurd h (by rw [a1]; exact nI_ge (by omega) (by omega))) (fun _ => ?_)
      have e5 : (1500 : Int32) * t + nI i = nI (1500 * k + i) := by
        rw [et]
        show nI 1500 * nI k + nI i = _
        rw [pk_mul, nI_add]
      refine bl_Md_insertAt_63 s0 rfl s1 (j4 := 1500 * k + i - 1) ⟨by rw [e5]; exact pk_sub (b := 1) (by omega), by omega, by omega⟩ (j5 := 1500 * k + i) ⟨e5, by omega, by omega⟩ ?_
      have em : nI i + (-1) = nI (i - 1) := by
        have := pk_m1 (i - 1)
        rw [show i - 1 + 1 = i by omega] at this
        exact this
      rw [em]
      refine ih (i - 1) _ (by omega) (by omega) (fun q hq => ?_) (fun z => ?_)
      · rw [← hF q hq]
        funext y
        simp [kv_up, hq]
      · have eu : ∀ v, kv_up J (w + 1) (1500 * k + i) v (w + 1) z = if z = 1500 * k + i then v else J (w + 1) z := by
          intro v
          unfold kv_up
          rw [if_pos rfl]
        rw [eu, hJ, hJ]
        by_cases h : z = 1500 * k + i
        · rw [if_pos h, if_neg (by omega), if_pos (by omega), h]
        · rw [if_neg h]
          by_cases h2 : 1500 * k + i < z ∧ z ≤ 1500 * k + l
          · rw [if_pos h2, if_pos (by omega)]
          · rw [if_neg h2, if_neg (by omega)]
  exact loop (l - tN a) l I (by omega) (Nat.le_refl _) (fun _ _ => rfl) (fun z => by rw [if_neg (by omega)])
