def StN (I : kv_IM) (w : Nat) (th : Nat → Bool) (z : Nat → Nat) (g : Nat → Nat → Nat) (q : Nat) : Prop := I (w + 10) q = kBo (th q) ∧ (th q = true → I (w + 11) q = nI (z q) ∧ ∀ i, i < z q → I (w + 12) (1500 * q + i) = nI (g q i))
def StB (I : kv_IM) (w c : Nat) (p f u : Nat → Nat) : Prop := I w 15 = nI (p c) ∧ I w 16 = nI c ∧ kTx I (w + 6) 0 f (p c) ∧ ∀ k, k < c → I (w + 7) k = nI (p k) ∧ I (w + 8) k = nI (kBl p k) ∧ I (w + 9) k = nI (u k)
def StM (I : kv_IM) (w : Nat) : kSt → Prop := fun σ => match σ with
  | (c, p, f, u, th, z, g) => StB I w c p f u ∧ ∀ q, q < 10 → StN I w th z g q
theorem StB_of {I J : kv_IM} {w c : Nat} {p f u : Nat → Nat} (h : StB I w c p f u) (e5 : J w 15 = I w 15) (e6 : J w 16 = I w 16) (e : ∀ a, w + 6 ≤ a → a ≤ w + 9 → J a = I a) : StB J w c p f u := by
  obtain ⟨h1, h2, h3, h4⟩ := h
  refine ⟨by rw [e5]; exact h1, by rw [e6]; exact h2, kTx_of h3 (e _ (by omega) (by omega)), fun k hk => ?_⟩
  rw [e (w + 7) (by omega) (by omega), e (w + 8) (by omega) (by omega), e (w + 9) (by omega) (by omega)]
  exact h4 k hk
theorem StM_of {I J : kv_IM} {w : Nat} {σ : kSt} (h : StM I w σ) (e5 : J w 15 = I w 15) (e6 : J w 16 = I w 16) (e : ∀ a, w + 6 ≤ a → a ≤ w + 12 → J a = I a) : StM J w σ := by
  obtain ⟨c, p, f, u, th, z, g⟩ := σ
  obtain ⟨h1, h2⟩ := h
  refine ⟨StB_of h1 e5 e6 (fun a b1 b2 => e a b1 (by omega)), fun q hq => ?_⟩
  unfold StN
  rw [e (w + 10) (by omega) (by omega), e (w + 11) (by omega) (by omega), e (w + 12) (by omega) (by omega)]
  exact h2 q hq
theorem StM_K {I J : kv_IM} {w : Nat} {σ : kSt} (h : StM I w σ) (hK : MdK w I J) : StM J w σ := StM_of h hK.2.1 hK.2.2 (fun a b1 b2 => hK.1 a (by omega))
theorem c_Md_isSnapshot {d : Nat} {B : kv_B} {n : Nat} {S : kv_SM} {I : kv_IM} (hd : 1 ≤ d) {w : Nat} {th : Nat → Bool} (t : Int32) (hS : MdS S w) (hT : ∀ q, q < 10 → I (w + 10) q = kBo (th q)) : kv_P y_Md_isSnapshot d B [.ref w, .int t] n S I (kQi (kB (kSn th t)) I) := by
  obtain ⟨s0, s1, s2, s3, s4, s5, s6, s7, s8, s9, s10, s11, s12, s13⟩ := id hS
  have t0 : (0 : Int32).toInt = 0 := by decide
  have t9 : (9 : Int32).toInt = 9 := by decide
  refine kv_P.of (by decide +kernel) rfl (Nat.le_of_ble_eq_true rfl) ?_
  have bad : ¬ kSn th t → kv_V y_Md_isSnapshot d B (kv_PQ n S (kQi (kB (kSn th t)) I)) 0 0 n S I 23 [(0, .ref w), (1, .int t)] [] := fun hn => bl_Md_isSnapshot_23 (bl_Md_isSnapshot_24 rfl (kQi_end (kB_f hn).symm))
  refine bp_Md_isSnapshot_0 (dc := 0) (c_Md_in t 0 9) (by omega) (fun v J hv => ?_)
  obtain ⟨rfl, rfl⟩ := hv
  refine bl_Md_isSnapshot_7 (fun h => bad (fun q => kB_e0.mp h ?_)) (fun h => ?_)
  · rw [t0, t9]
    have := q.1
    omega
  have hv := Classical.not_not.mp (fun q => h (kB_e0.mpr q))
  rw [t0, t9] at hv
  obtain ⟨i1, i2, i3⟩ := tN_of hv.1
  have hq : tN t < 10 := by omega
  refine bl_Md_isSnapshot_10 s0 rfl s10 (j4 := tN t) ⟨i1, hq, by omega⟩ (fun h => bad ?_) (fun h => ?_)
  · rw [hT _ hq] at h
    exact fun q => by have q2 := q.2; rw [kBo_e0.mp h] at q2; exact Bool.noConfusion q2
  · rw [hT _ hq] at h
    refine bl_Md_isSnapshot_19 (bl_Md_isSnapshot_24 rfl (kQi_end (kB_t ⟨⟨hv.1, by omega⟩, ?_⟩).symm))
    cases e : th (tN t)
    · exact absurd (kBo_e0.mpr e) h
    · rfl
theorem c_Md_bytesOf {d : Nat} {B : kv_B} {n : Nat} {S : kv_SM} {I : kv_IM} {w q zz c : Nat} {p f u gg : Nat → Nat} (hS : MdS S w) (hq : q < 10) (hB : StB I w c p f u) (hc : c ≤ 300) (hz : I (w + 11) q = nI zz) (hz2 : zz ≤ 1500) (hg : ∀ i, i < zz → I (w + 12) (1500 * q + i) = nI (gg i) ∧ gg i < c) : kv_P y_Md_bytesOf d B [.ref w, .int (nI q)] n S I (kQi (nI (kSl p gg zz)) I) := by
  obtain ⟨s0, s1, s2, s3, s4, s5, s6, s7, s8, s9, s10, s11, s12, s13⟩ := id hS
  refine kv_P.of (by decide +kernel) rfl (Nat.le_of_ble_eq_true rfl) ?_
  refine bl_Md_bytesOf_0 ?_
  have loop : ∀ (j m : Nat), m + j = zz → kv_V y_Md_bytesOf d B (kv_PQ n S (kQi (nI (kSl p gg zz)) I)) 0 0 n S I 4 [(0, .ref w), (1, .int (nI q)), (2, .int (nI (kSl p gg m))), (3, .int (nI m))] [] := by
    intro j
    induction j with
    | zero =>
      intro m hm
      refine bl_Md_bytesOf_4 s0 rfl s11 ⟨rfl, hq, by omega⟩ (fun _ => ?_) (fun h => absurd (by rw [hz]; exact nI_le (by omega) (by omega)) h)
      refine bl_Md_bytesOf_40 (kQi_end ?_)
      rw [show m = zz by omega]
    | succ j ih =>
      intro m hm
      obtain ⟨g1, g2⟩ := hg m (by omega)
      refine bl_Md_bytesOf_4 s0 rfl s11 ⟨rfl, hq, by omega⟩ (fun h => absurd h (by rw [hz]; exact nI_ge (by omega) (by omega))) (fun _ => ?_)
      refine bl_Md_bytesOf_14 s0 rfl rfl s12 (j5 := 1500 * q + m) ⟨?_, by omega, by omega⟩ s8 (j7 := gg m) ⟨g1, by omega, by omega⟩ ?_
      · show nI 1500 * nI q + nI m = _
        rw [pk_mul, nI_add]
      · rw [(hB.2.2.2 _ g2).2.1, nI_add, nI_1]
        exact ih (m + 1) (by omega)
  exact loop zz 0 (by omega)
theorem c_Md_told {d : Nat} {B : kv_B} {n : Nat} {S : kv_SM} {I : kv_IM} (hd : 2 ≤ d) {w : Nat} {ru : Nat → Nat} {tab : Nat → Int32} {len : Nat → Nat} {tb : Nat → Nat → Nat} {c : Nat} {p f u : Nat → Nat} {th : Nat → Bool} {z : Nat → Nat} {g : Nat → Nat → Nat} (t x : Int32) (hS : MdS S w) (hA : MdA I w ru tab len tb) (hM' : StM I w (c, p, f, u, th, z, g)) (hK : StK (c, p, f, u, th, z, g)) :
    kv_P y_Md_told d B [.ref w, .int t, .int x] n S I (MdR I w ru tab len tb (.int (sTold p th z g t x))) := by
  obtain ⟨s0, s1, s2, s3, s4, s5, s6, s7, s8, s9, s10, s11, s12, s13⟩ := id hS
  obtain ⟨k1, k2, k3, k4, k5, k6, k7⟩ := id hK
  have hA0 := kC0_A hA
  obtain ⟨m1, m2⟩ := StM_K hM' (kC0_K (I := I) (w := w))
  have t0 : (0 : Int32).toInt = 0 := by decide
  have t1 : (1 : Int32).toInt = 1 := by decide
  refine kv_P.of (by decide +kernel) rfl (Nat.le_of_ble_eq_true rfl) ?_
  have bad : ¬ (kSn th t ∧ (0 ≤ x.toInt ∧ x.toInt ≤ 1)) → kv_V y_Md_told d B (kv_PQ n S (MdR I w ru tab len tb (.int (sTold p th z g t x)))) 0 0 n S (kC0 I w) 22 [(0, .ref w), (1, .int t), (2, .int x)] [] := by
    intro hn
    refine bl_Md_told_22 ⟨rfl, rfl, ?_, kC0_K, hA0⟩
    unfold sTold
    rw [if_neg hn]
  refine bp_Md_told_0 (dc := 1) s0 (c_Md_isSnapshot (by omega) t hS (I := kC0 I w) (fun q hq => (m2 q hq).1)) (by omega) (fun v J hv => ?_)
  obtain ⟨rfl, rfl⟩ := hv
  refine bl_Md_told_10 (fun h => bad (fun q => kB_e0.mp h q.1)) (fun h => ?_)
  have hn := Classical.not_not.mp (fun q => h (kB_e0.mpr q))
  refine bp_Md_told_13 (dc := 0) (c_Md_in x 0 1) (by omega) (fun v J hv => ?_)
  obtain ⟨rfl, rfl⟩ := hv
  refine bl_Md_told_19 (fun h => ?_) (fun h => bad (fun q => kB_e0.mp h ?_))
  rotate_left
  · rw [t0, t1]; exact q.2
  have hx := Classical.not_not.mp (fun q => h (kB_e0.mpr q))
  rw [t0, t1] at hx
  obtain ⟨i1, i2, i3⟩ := tN_of hn.1.1
  have hq : tN t < 10 := by have := hn.1.2; omega
  obtain ⟨e1, e2⟩ := (m2 _ hq).2 hn.2
  obtain ⟨w1, w2, w3⟩ := k6 _ hq hn.2
  refine bl_Md_told_24 (fun h => ?_) (fun h => ?_)
  · refine bp_Md_told_37 (dc := 0) s0 (by
      rw [i1]
      exact c_Md_bytesOf hS hq m1 k1 e1 w1 (fun i hi => ⟨e2 i hi, w2 i hi⟩)) (by omega) (fun v J hv => ?_)
    obtain ⟨hv, rfl⟩ := hv
    subst hv
    refine bl_Md_told_42 ⟨rfl, rfl, ?_, kC0_K, hA0⟩
    unfold sTold
    rw [if_pos ⟨hn, hx⟩, if_neg h]
  · refine bl_Md_told_28 s0 rfl s11 (j4 := tN t) ⟨i1, hq, by omega⟩ (bl_Md_told_42 ⟨rfl, rfl, ?_, kC0_K, hA0⟩)
    unfold sTold
    rw [if_pos ⟨hn, hx⟩, if_pos h, e1]
theorem c_Md_find {d : Nat} {B : kv_B} {n : Nat} {S : kv_SM} {I : kv_IM} (hd : 1 ≤ d) {w t k N l c : Nat} {p f u tf tp : Nat → Nat} (hS : MdS S w) (ht : t < 4) (hk : k < N) (hN : N ≤ 1500) (hT : kTx I (w + 1) (1500 * t) tf l) (hl : l ≤ 1500) (hp : ∀ i, i ≤ N → I (w + 4) i = nI (tp i)) (hi : tp k < tp (k + 1)) (hp2 : tp (k + 1) ≤ l) (hB : StB I w c p f u) (hc : c ≤ 300) (h6 : p c ≤ 6000) (hinc : ∀ k, k < c → p k < p (k + 1)) :
    kv_P y_Md_find d B [.ref w, .int (nI t), .int (nI k)] n S I (kQi (kFv c (kFd f p c tf tp k)) I) := by
  obtain ⟨s0, s1, s2, s3, s4, s5, s6, s7, s8, s9, s10, s11, s12, s13⟩ := id hS
  obtain ⟨b1, b2, b3, b4⟩ := id hB
  refine kv_P.of (by decide +kernel) rfl (Nat.le_of_ble_eq_true rfl) ?_
  refine bl_Md_find_0 s0 rfl s4 (j4 := k + 1) ⟨nI_1 k, by omega, by omega⟩ ⟨rfl, by omega, by omega⟩ ?_
  rw [hp (k + 1) (by omega), hp k (by omega), pk_sub (by omega)]
  have loop : ∀ (j i : Nat), i + j = c → (∀ m, m < i → ¬ kLike f p m tf tp k) → kv_V y_Md_find d B (kv_PQ n S (kQi (kFv c (kFd f p c tf tp k)) I)) 0 0 n S I 19 [(0, .ref w), (1, .int (nI t)), (2, .int (nI k)), (3, .int (nI (tp (k + 1) - tp k))), (4, .int (nI i))] [] := by
    intro j
    induction j with
    | zero =>
      intro i hi2 hn
      refine bl_Md_find_19 s0 (fun _ => ?_) (fun h => absurd (by rw [b2]; exact nI_le (by omega) (by omega)) h)
      refine bl_Md_find_82 (kQi_end ?_)
      rw [kFd_no (fun m hm => hn m (by omega))]
      exact (if_pos rfl).symm
    | succ j ih =>
      intro i hi2 hn
      have hic : i < c := by omega
      obtain ⟨q1, q2, q3⟩ := b4 i hic
      have n1 := hinc i hic
      have ebl : kBl p i = p (i + 1) - p i := rfl
      have n2 := kMon hinc (i := i + 1) (k := c) (by omega) (Nat.le_refl _)
      have next : ¬ kLike f p i tf tp k → kv_V y_Md_find d B (kv_PQ n S (kQi (kFv c (kFd f p c tf tp k)) I)) 0 0 n S I 76 [(0, .ref w), (1, .int (nI t)), (2, .int (nI k)), (3, .int (nI (tp (k + 1) - tp k))), (4, .int (nI i))] [] := by
        intro hno
        refine bl_Md_find_76 ?_
        rw [nI_1]
        refine ih (i + 1) (by omega) (fun m hm => ?_)
        by_cases e : m = i
        · rw [e]; exact hno
        · exact hn m (by omega)
      refine bl_Md_find_19 s0 (fun h => absurd h (by rw [b2]; exact nI_ge (by omega) (by omega))) (fun _ => ?_)
      refine bl_Md_find_28 s0 rfl s8 ⟨rfl, by omega, by omega⟩ (fun h => next (fun q => h ?_)) (fun h => ?_)
      · rw [q2]
        exact congrArg nI q.1
      · rw [q2, nI_eq (by omega) (by omega)] at h
        have h : p (i + 1) - p i = tp (k + 1) - tp k := h
        refine bp_Md_find_39 (dc := 0) s0 rfl rfl s7 ⟨rfl, by omega, by omega⟩ rfl rfl s4 (j9 := k) ⟨rfl, by omega, by omega⟩ (by
          have e : (1500 : Int32) * nI t + nI (tp k) = nI (1500 * t + tp k) := by
            show nI 1500 * nI t + nI (tp k) = _
            rw [pk_mul, nI_add]
          rw [q1, hp k (by omega), e, ← Nat.zero_add (p i)]
          exact c_Md_isSame (f := f) (g := tf) (lo := p i) (lo' := tp k) (m := tp (k + 1) - tp k) s6 s1 (by omega) (by omega) b3 hT (by omega) (by omega) (by omega) (by omega)) (by omega) (fun v J hv => ?_)
        obtain ⟨rfl, rfl⟩ := hv
        refine bl_Md_find_70 (fun h0 => next (fun q => kB_e0.mp h0 ?_)) (fun h0 => ?_)
        · have := q.2
          rw [h] at this
          exact this
        · have hs := Classical.not_not.mp (fun q => h0 (kB_e0.mpr q))
          have hlk : kLike f p i tf tp k := ⟨h, by rw [h]; exact hs⟩
          refine bl_Md_find_73 (kQi_end ?_)
          have e : kFd f p c tf tp k = i := kLs_eq hic (decide_eq_true hlk) (fun m hm => decide_eq_false (hn m hm))
          rw [e]
          exact (if_neg (by omega)).symm
  exact loop c 0 (by omega) (fun m hm => absurd hm (by omega))
theorem kBl_tp {ru : Nat → Nat} {tab : Nat → Int32} {f : Nat → Nat} {len k : Nat} (h : k < kCnt ru tab f len) : kPos ru tab f len k < kPos ru tab f len (k + 1) ∧ kPos ru tab f len (k + 1) ≤ len := ⟨kPos_inc h, kPos_le _⟩
theorem c_Md_uses {d : Nat} {B : kv_B} {n : Nat} {S : kv_SM} {I : kv_IM} (hd : 5 ≤ d) {w : Nat} {ru : Nat → Nat} {tab : Nat → Int32} {len : Nat → Nat} {tb : Nat → Nat → Nat} {c : Nat} {p f u : Nat → Nat} {th : Nat → Bool} {z : Nat → Nat} {g : Nat → Nat → Nat} (t k : Int32) (hS : MdS S w) (hA : MdA I w ru tab len tb) (hok : RuOK ru) (hM : StM I w (c, p, f, u, th, z, g)) (hK : StK (c, p, f, u, th, z, g)) :
    kv_P y_Md_uses d B [.ref w, .int t, .int k] n S I (MdR I w ru tab len tb (.int (sUses ru tab len tb c p f u t k))) := by
  obtain ⟨s0, s1, s2, s3, s4, s5, s6, s7, s8, s9, s10, s11, s12, s13⟩ := id hS
  obtain ⟨k1, k2, k3, k4, k5, k6, k7⟩ := id hK
  refine kv_P.of (by decide +kernel) rfl (Nat.le_of_ble_eq_true rfl) ?_
  refine bp_Md_uses_0 (dc := 4) s0 (c_Md_isBlock (by omega) t k hS (kC0_A hA) hok) (by omega) (fun v J hv => ?_)
  obtain ⟨rfl, hK1, hA1, hP⟩ := hv
  have hKK := MdK_tr (kC0_K (I := I) (w := w)) hK1
  obtain ⟨m1, m2⟩ := StM_K hM hKK
  refine bl_Md_uses_11 (fun h => ?_) (fun h => ?_)
  rotate_left
  · refine bl_Md_uses_14 ⟨rfl, rfl, ?_, hKK, hA1⟩
    unfold sUses
    rw [if_neg (kB_e0.mp h)]
  have hb := Classical.not_not.mp (fun q => h (kB_e0.mpr q))
  obtain ⟨ht, hk0, hk1⟩ := id hb
  obtain ⟨hk, et⟩ := kT_of ht
  obtain ⟨i1, i2, i3⟩ := tN_of hk0
  obtain ⟨g1, g2, g3⟩ := hA1.2.2 _ hk
  have hcl := kCnt_le (ru := ru) (tab := tab) (f := tb (tN t)) (len := len (tN t))
  have hlt : tN k < kCnt ru tab (tb (tN t)) (len (tN t)) := by omega
  have hle := kFd_le (f := f) (p := p) (c := c) (tf := tb (tN t)) (tp := kPos ru tab (tb (tN t)) (len (tN t))) (k := tN k)
  refine bp_Md_uses_16 (dc := 1) s0 (Qv := kQi (kFv c (kFd f p c (tb (tN t)) (kPos ru tab (tb (tN t)) (len (tN t))) (tN k))) J) (by
    have hh := c_Md_find (d := 1) (B := B) (n := n) (by omega) hS hk hlt (by omega) g3 g1 (hP ht) (kBl_tp hlt).1 (kBl_tp hlt).2 m1 k1 k4 k3
    rw [← et, ← i1] at hh
    exact hh) (by omega) (fun v M hv => ?_)
  obtain ⟨hv, rfl⟩ := hv
  subst hv
  have eU : sUses ru tab len tb c p f u t k = if kFd f p c (tb (tN t)) (kPos ru tab (tb (tN t)) (len (tN t))) (tN k) = c then 0 else nI (u (kFd f p c (tb (tN t)) (kPos ru tab (tb (tN t)) (len (tN t))) (tN k))) := if_pos hb
  rw [eU]
  generalize kFd f p c (tb (tN t)) (kPos ru tab (tb (tN t)) (len (tN t))) (tN k) = j at *
  by_cases e : j = c
  · rw [if_pos e]
    have ev : kFv c j = -1 := if_pos e
    rw [ev]
    refine bl_Md_uses_22 (fun h => absurd h (by decide)) (fun _ => ?_)
    exact bl_Md_uses_27 (bl_Md_uses_37 ⟨rfl, rfl, rfl, hKK, hA1⟩)
  · rw [if_neg e]
    have ev : kFv c j = nI j := if_neg e
    rw [ev]
    refine bl_Md_uses_22 (fun _ => ?_) (fun h => absurd (nI_pos' (by omega)) h)
    exact bl_Md_uses_31 s0 rfl s9 (j4 := j) ⟨rfl, by omega, by omega⟩ (bl_Md_uses_37 ⟨rfl, rfl, by rw [(m1.2.2.2 j (by omega)).2.2], hKK, hA1⟩)
