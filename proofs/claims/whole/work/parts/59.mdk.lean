theorem z_dec {a : Int32} {m : Nat} : a + nI m * (-1) - 1 = a + nI (m + 1) * (-1) := by
  rw [Int32.sub_eq_add_neg]
  exact z_rep
theorem z_dec0 {a : Int32} : a = a + nI 0 * (-1) := by
  rw [nI_0, Int32.zero_mul, Int32.add_zero]
theorem c_Md_giveUp {d : Nat} {B : kv_B} {n : Nat} {S : kv_SM} {I : kv_IM} {w q k : Nat} {gg : Nat → Nat} (h hs : Int32) (hS : MdS S w) (hq : q < 10) (hk : k ≤ 1500) (hg : ∀ i, i < k → I (w + 12) (1500 * q + i) = nI (gg i) ∧ gg i < 301) :
    kv_P y_Md_giveUp d B [.ref w, .int (nI q), .int (nI k), .int h, .int hs] n S I (fun v J => v = some (.int (-2)) ∧ (∀ a, a ≠ w → a ≠ w + 9 → J a = I a) ∧ J w 16 = h ∧ J w 15 = hs ∧ (∀ i, i ≠ 15 → i ≠ 16 → J w i = I w i) ∧ ∀ m, J (w + 9) m = I (w + 9) m + nI (kCt gg k m) * (-1)) := by
  obtain ⟨s0, s1, s2, s3, s4, s5, s6, s7, s8, s9, s10, s11, s12, s13⟩ := id hS
  refine kv_P.of (by decide +kernel) rfl (Nat.le_of_ble_eq_true rfl) ?_
  refine bl_Md_giveUp_0 ?_
  have loop : ∀ (j i : Nat) (J : kv_IM), i + j = k → (∀ a, a ≠ w + 9 → J a = I a) → (∀ m, J (w + 9) m = I (w + 9) m + nI (kCt gg i m) * (-1)) → kv_V y_Md_giveUp d B (kv_PQ n S (fun v J => v = some (.int (-2)) ∧ (∀ a, a ≠ w → a ≠ w + 9 → J a = I a) ∧ J w 16 = h ∧ J w 15 = hs ∧ (∀ i, i ≠ 15 → i ≠ 16 → J w i = I w i) ∧ ∀ m, J (w + 9) m = I (w + 9) m + nI (kCt gg k m) * (-1))) 0 0 n S J 3 [(0, .ref w), (1, .int (nI q)), (2, .int (nI k)), (3, .int h), (4, .int hs), (5, .int (nI i))] [] := by
    intro j
    induction j with
    | zero =>
      intro i J hi hF hN
      refine bl_Md_giveUp_3 (fun _ => ?_) (fun r => absurd (nI_le (by omega) (by omega)) r)
      refine bl_Md_giveUp_37 s0 ⟨rfl, rfl, rfl, fun a a1 a2 => ?_, ?_, ?_, fun i' a1 a2 => ?_, fun m => ?_⟩
      · rw [up_ne a1, up_ne a1, hF a a2]
      · rw [up_i (by omega), up_at]
      · rw [up_at]
      · rw [up_i a1, up_i a2, hF w (by omega)]
      · rw [up_ne (by omega), up_ne (by omega), ← show i = k by omega]
        exact hN m
    | succ j ih =>
      intro i J hi hF hN
      obtain ⟨g1, g2⟩ := hg i (by omega)
      refine bl_Md_giveUp_3 (fun r => absurd r (nI_ge (by omega) (by omega))) (fun _ => ?_)
      refine bl_Md_giveUp_9 s0 rfl rfl s12 (j5 := 1500 * q + i) ⟨?_, by omega, by omega⟩ s9 (j7 := gg i) ⟨by rw [hF _ (by omega)]; exact g1, by omega, by omega⟩ ?_
      · show nI 1500 * nI q + nI i = _
        rw [pk_mul, nI_add]
      rw [nI_1]
      refine ih (i + 1) _ (by omega) (fun a ha => by rw [up_ne ha]; exact hF a ha) (fun m => ?_)
      by_cases e : m = gg i
      · rw [e, up_at, hN, z_dec, kCt_s, if_pos rfl]
      · rw [up_i e, hN, kCt_s, if_neg (fun r => e r.symm)]
        rfl
  exact loop k 0 I (by omega) (fun _ _ => rfl) (fun m => z_dec0)
theorem kCt_zero {g : Nat → Nat} {m : Nat} : ∀ {k : Nat}, (∀ i, i < k → g i ≠ m) → kCt g k m = 0
  | 0, _ => rfl
  | k + 1, h => by rw [kCt_s, if_neg (h k (by omega)), kCt_zero (fun i hi => h i (by omega))]
theorem kCt_cg {g g' : Nat → Nat} {m k : Nat} (h : ∀ i, i < k → g i = g' i) : kCt g k m = kCt g' k m := kSm_congr (fun i hi => by
  show (if g i = m then 1 else 0) = (if g' i = m then 1 else 0)
  rw [h i hi])
theorem kCt_u {g : Nat → Nat} {k v m : Nat} : kCt (kU g k v) (k + 1) m = kCt g k m + (if v = m then 1 else 0) := by
  rw [kCt_s, kU_s, kCt_cg (fun i hi => kU_n (by omega))]
def kMkp (I J : kv_IM) (w q k c c0 : Nat) (p f u gg : Nat → Nat) : Prop :=
  (∀ a, a ≠ w → (a < w + 6 ∨ w + 12 < a ∨ a = w + 10 ∨ a = w + 11) → J a = I a) ∧ (∀ i, i ≠ 15 → i ≠ 16 → J w i = I w i) ∧ StB J w c p f (fun m => (if m < c0 then u m else 0) + kCt gg k m) ∧ (∀ i, i < k → J (w + 12) (1500 * q + i) = nI (gg i)) ∧ ∀ i, (i < 1500 * q ∨ 1500 * q + 1500 ≤ i) → J (w + 12) i = I (w + 12) i
theorem c_Md_keep {d : Nat} {B : kv_B} {n : Nat} {S : kv_SM} {I : kv_IM} (hd : 4 ≤ d) {w : Nat} {ru : Nat → Nat} {tab : Nat → Int32} {len : Nat → Nat} {tb : Nat → Nat → Nat} {σ : kSt} (t : Int32) (hS : MdS S w) (hA' : MdA I w ru tab len tb) (hok : RuOK ru) (hM' : StM I w σ) (hK : StK σ) :
    kv_P y_Md_keep d B [.ref w, .int t] n S I (fun v J => v = some (.int (sKp ru tab len tb σ t).1) ∧ kFr w (w + 13) I J ∧ MdA J w ru tab len tb ∧ StM J w (sKp ru tab len tb σ t).2) := by
  obtain ⟨c0, p0, f0, u, th, z, g⟩ := σ
  obtain ⟨s0, s1, s2, s3, s4, s5, s6, s7, s8, s9, s10, s11, s12, s13⟩ := id hS
  obtain ⟨k1, k2, k3, k4, k5, k6, k7⟩ := id hK
  obtain ⟨f1, f2, f3⟩ := kFree_sp (th := th)
  have hA0 := kC0_A hA'
  have hM0 := StM_K hM' (kC0_K (I := I) (w := w))
  have hF0 : kFr w (w + 13) I (kC0 I w) := fun a ha => kC0_ne (by omega)
  refine kv_P.of (by decide +kernel) rfl (Nat.le_of_ble_eq_true rfl) ?_
  refine bp_Md_keep_0 (dc := 1) s0 (c_Md_isText (by omega) t) (by omega) (fun v J hv => ?_)
  obtain ⟨rfl, rfl⟩ := hv
  change kv_V _ _ _ _ _ _ _ _ (kC0 I w) _ _ _
  refine bl_Md_keep_9 (fun h => ?_) (fun h => ?_)
  rotate_left
  · have e : sKp ru tab len tb (c0, p0, f0, u, th, z, g) t = (-1, (c0, p0, f0, u, th, z, g)) := if_neg (kB_e0.mp h)
    rw [e]
    exact bl_Md_keep_12 ⟨rfl, rfl, rfl, hF0, hA0, hM0⟩
  have ht : kT t := Classical.not_not.mp (fun q => h (kB_e0.mpr q))
  obtain ⟨ht4, et⟩ := kT_of ht
  have e : sKp ru tab len tb (c0, p0, f0, u, th, z, g) t = sKeep (c0, p0, f0, u, th, z, g) (tb (tN t)) (kPos ru tab (tb (tN t)) (len (tN t))) (kCnt ru tab (tb (tN t)) (len (tN t))) := if_pos ht
  rw [e]
  clear e h ht
  generalize tN t = t0 at *
  subst et
  generalize kC0 I w = I0 at *
  obtain ⟨m1, m2⟩ := id hM0
  refine bl_Md_keep_14 ?_
  have loop1 : ∀ (j k : Nat), k + j = 10 → (∀ q, q < k → th q = true) → (kv_V y_Md_keep d B (kv_PQ n S (fun v J => v = some (.int (sKeep (c0, p0, f0, u, th, z, g) (tb t0) (kPos ru tab (tb t0) (len t0)) (kCnt ru tab (tb t0) (len t0))).1) ∧ kFr w (w + 13) I J ∧ MdA J w ru tab len tb ∧ StM J w (sKeep (c0, p0, f0, u, th, z, g) (tb t0) (kPos ru tab (tb t0) (len t0)) (kCnt ru tab (tb t0) (len t0))).2)) 0 0 n S I0 37 [(0, .ref w), (1, .int (nI t0)), (2, .int (nI (kFree th)))] []) → kv_V y_Md_keep d B (kv_PQ n S (fun v J => v = some (.int (sKeep (c0, p0, f0, u, th, z, g) (tb t0) (kPos ru tab (tb t0) (len t0)) (kCnt ru tab (tb t0) (len t0))).1) ∧ kFr w (w + 13) I J ∧ MdA J w ru tab len tb ∧ StM J w (sKeep (c0, p0, f0, u, th, z, g) (tb t0) (kPos ru tab (tb t0) (len t0)) (kCnt ru tab (tb t0) (len t0))).2)) 0 0 n S I0 16 [(0, .ref w), (1, .int (nI t0)), (2, .int (nI k))] [] := by
    intro j
    induction j with
    | zero =>
      intro k hk hp hgo
      refine bl_Md_keep_16 (fun _ => ?_) (fun h => absurd (nI_le (a := 10) (by omega) (by omega)) h)
      have e : kFree th = 10 := kLs_no (fun q hq => by rw [hp q (by omega)]; rfl)
      rw [e, ← show k = 10 by omega] at hgo
      exact hgo
    | succ j ih =>
      intro k hk hp hgo
      have hq : k < 10 := by omega
      refine bl_Md_keep_16 (fun h => absurd h (nI_ge (b := 10) (by omega) (by omega))) (fun _ => ?_)
      refine bl_Md_keep_22 s0 rfl s10 ⟨rfl, hq, by omega⟩ (fun h => ?_) (fun h => ?_)
      · rw [(m2 k hq).1] at h
        have e2 := kBo_e0.mp h
        have e : kFree th = k := kLs_eq hq (by rw [e2]; rfl) (fun i hi => by rw [hp i hi]; rfl)
        rw [e] at hgo
        exact hgo
      · rw [(m2 k hq).1] at h
        refine bl_Md_keep_31 ?_
        rw [nI_1]
        refine ih (k + 1) (by omega) (fun q hq' => ?_) hgo
        by_cases e : q = k
        · rw [e]
          cases e2 : th k
          · exact absurd (kBo_e0.mpr e2) h
          · rfl
        · exact hp q (by omega)
  refine loop1 10 0 (by omega) (fun q hq => absurd hq (by omega)) ?_
  clear loop1
  by_cases h10 : kFree th = 10
  · have e : sKeep (c0, p0, f0, u, th, z, g) (tb t0) (kPos ru tab (tb t0) (len t0)) (kCnt ru tab (tb t0) (len t0)) = (-2, (c0, p0, f0, u, th, z, g)) := if_pos h10
    rw [e, h10]
    refine bl_Md_keep_37 (fun h => absurd rfl h) (fun _ => ?_)
    exact bl_Md_keep_43 ⟨rfl, rfl, rfl, hF0, hA0, hM0⟩
  have hq : kFree th < 10 := by omega
  have hfq := f3 hq
  obtain ⟨g1, g2, g3⟩ := hA0.2.2 t0 ht4
  have hNl := kCnt_le (ru := ru) (tab := tab) (f := tb t0) (len := len t0)
  have hinc' : ∀ k, k < kCnt ru tab (tb t0) (len t0) → kPos ru tab (tb t0) (len t0) k < kPos ru tab (tb t0) (len t0) (k + 1) := fun k hk => (kBl_tp hk).1
  have hple : ∀ k, kPos ru tab (tb t0) (len t0) k ≤ len t0 := fun k => kPos_le k
  have eK : sKeep (c0, p0, f0, u, th, z, g) (tb t0) (kPos ru tab (tb t0) (len t0)) (kCnt ru tab (tb t0) (len t0)) = (match kKp (tb t0) (kPos ru tab (tb t0) (len t0)) c0 p0 f0 (kCnt ru tab (tb t0) (len t0)) with
    | none => (-2, (c0, p0, f0, u, th, z, g))
    | some (c', p', f', g') => (nI (kFree th), (c', p', f', fun k => (if k < c0 then u k else 0) + kCt g' (kCnt ru tab (tb t0) (len t0)) k, kU th (kFree th) true, kU z (kFree th) (kCnt ru tab (tb t0) (len t0)), kU g (kFree th) g'))) := if_neg h10
  rw [eK]
  refine bl_Md_keep_37 (fun _ => ?_) (fun h => absurd h (nI_ne (by omega) (by omega : 10 < 2 ^ 31) h10))
  refine bp_Md_keep_46 (dc := 3) s0 rfl (c_lay (by omega) hS hA0 hok ht4 (Or.inl rfl)) (by omega) (fun v J hv => ?_)
  obtain ⟨rfl, hJF, hJP⟩ := hv
  refine bl_Md_keep_56 s0 s0 ?_
  clear eK
  generalize kFree th = q at *
  generalize kPos ru tab (tb t0) (len t0) = tp at *
  generalize kCnt ru tab (tb t0) (len t0) = N at *
  generalize tb t0 = tf at *
  generalize hI1 : kv_up J w 11 (nI N) = I1
  have y0 : ∀ a, a ≠ w → a ≠ w + 4 → I1 a = I0 a := fun a a1 a2 => by rw [← hI1, up_ne a1, hJF a a2]
  have yw : ∀ i, i ≠ 11 → I1 w i = I0 w i := fun i hi => by rw [← hI1, up_i hi, hJF w (by omega)]
  have y11 : I1 w 11 = nI N := by rw [← hI1, up_at]
  have y4 : ∀ i, i ≤ N → I1 (w + 4) i = nI (tp i) := fun i hi => by rw [← hI1, up_ne (by omega)]; exact hJP i hi
  have y16 : I1 w 16 = nI c0 := by rw [yw 16 (by omega)]; exact m1.2.1
  have y15 : I1 w 15 = nI (p0 c0) := by rw [yw 15 (by omega)]; exact m1.1
  rw [y16, y15]
  have hA1 : MdA I1 w ru tab len tb := MdA_of hA0 (fun i h1 h2 => yw i (by omega)) (fun a h1 h2 => y0 a (by omega) (by omega))
  have hF1 : kFr w (w + 13) I I1 := fun a ha => by rw [y0 a (by omega) (by omega)]; exact hF0 a ha
  have hB1 : StB I1 w c0 p0 f0 u := StB_of m1 (yw 15 (by omega)) (yw 16 (by omega)) (fun a h1 h2 => y0 a (by omega) (by omega))
  have hN1 : ∀ q, q < 10 → StN I1 w th z g q := by
    intro q' hq'
    unfold StN
    rw [y0 (w + 10) (by omega) (by omega), y0 (w + 11) (by omega) (by omega), y0 (w + 12) (by omega) (by omega)]
    exact m2 q' hq'
  have hT1 : kTx I1 (w + 1) (1500 * t0) tf (len t0) := kTx_of g3 (y0 _ (by omega) (by omega))
  clear hJF hJP hI1 y0 yw hM0 hA0 hM' hA' hF0 m1 m2
  generalize hQQ : kv_PQ n S (fun v J => v = some (.int (match kKp tf tp c0 p0 f0 N with
    | none => ((-2, (c0, p0, f0, u, th, z, g)) : Int32 × kSt)
    | some (c', p', f', g') => (nI q, (c', p', f', fun k => (if k < c0 then u k else 0) + kCt g' N k, kU th q true, kU z q N, kU g q g'))).1) ∧ kFr w (w + 13) I J ∧ MdA J w ru tab len tb ∧ StM J w (match kKp tf tp c0 p0 f0 N with
    | none => ((-2, (c0, p0, f0, u, th, z, g)) : Int32 × kSt)
    | some (c', p', f', g') => (nI q, (c', p', f', fun k => (if k < c0 then u k else 0) + kCt g' N k, kU th q true, kU z q N, kU g q g'))).2) = QQ
  have loop : ∀ (j k : Nat) (J : kv_IM) (c : Nat) (p f gg : Nat → Nat), k + j = N → kKp tf tp c0 p0 f0 k = some (c, p, f, gg) → kMkp I1 J w q k c c0 p f u gg → kv_V y_Md_keep d B QQ 0 0 n S J 73 [(0, .ref w), (1, .int (nI t0)), (2, .int (nI q)), (3, .int (nI c0)), (4, .int (nI (p0 c0))), (5, .int (nI k))] [] := by
    intro j
    induction j with
    | zero =>
      intro k J c p f gg hk hst hJ
      have hk' : k = N := by omega
      subst hk'
      obtain ⟨j1, j2, j3, j4, j5⟩ := hJ
      obtain ⟨h1, h2, h3, h4, h5, h6, h7, h8, h9⟩ := kKI_all k1 k3 k4 k5 hinc' (Nat.le_refl _) hst
      have e11 : J w 11 = nI k := by rw [j2 11 (by omega) (by omega)]; exact y11
      refine bl_Md_keep_73 s0 (fun _ => ?_) (fun h => absurd (by rw [e11]; exact nI_le (Nat.le_refl _) (by omega)) h)
      rw [← hQQ, hst]
      have eM : kv_up J (w + 10) q 1 w 11 = nI k := by rw [up_ne (by omega)]; exact e11
      refine bl_Md_keep_285 s0 rfl s10 ⟨rfl, hq, by omega⟩ rfl s11 (j7 := q) ⟨rfl, hq, by omega⟩ ?_
      rw [eM]
      have xo : ∀ a, a ≠ w + 10 → a ≠ w + 11 → kv_up (kv_up J (w + 10) q 1) (w + 11) q (nI k) a = J a := fun a a1 a2 => by rw [up_ne a2, up_ne a1]
      refine ⟨rfl, rfl, rfl, fun a ha => ?_, ?_, ?_, fun q' hq' => ?_⟩
      · rw [xo a (by omega) (by omega), j1 a (by omega) (by omega)]
        exact hF1 a ha
      · refine MdA_of hA1 (fun i a1 a2 => ?_) (fun a a1 a2 => ?_)
        · rw [xo w (by omega) (by omega)]
          exact j2 i (by omega) (by omega)
        · rw [xo a (by omega) (by omega)]
          exact j1 a (by omega) (by omega)
      · exact StB_of j3 (by rw [xo w (by omega) (by omega)]) (by rw [xo w (by omega) (by omega)]) (fun a a1 a2 => xo a (by omega) (by omega))
      · by_cases e : q' = q
        · subst e
          refine ⟨?_, fun _ => ⟨?_, fun i hi => ?_⟩⟩
          · rw [up_ne (by omega), up_at, kU_s]
            rfl
          · rw [up_at, kU_s]
          · rw [kU_s] at hi
            rw [xo _ (by omega) (by omega), kU_s]
            exact j4 i hi
        · obtain ⟨y1, y2⟩ := hN1 q' hq'
          refine ⟨?_, fun ht => ?_⟩
          · rw [up_ne (by omega), up_i e, kU_n e, j1 _ (by omega) (by omega)]
            exact y1
          · rw [kU_n e] at ht
            obtain ⟨y3, y5⟩ := y2 ht
            have hz := (k6 q' hq' ht).1
            rw [kU_n e, kU_n e]
            refine ⟨?_, fun i hi => ?_⟩
            · rw [up_i e, up_ne (by omega), j1 _ (by omega) (by omega)]
              exact y3
            · rw [xo _ (by omega) (by omega), j5 _ (by omega)]
              exact y5 i hi
    | succ j ih =>
      intro k J c p f gg hk hst hJ
      have hkN : k < N := by omega
      have hKI := kKI_all k1 k3 k4 k5 hinc' (by omega) hst
      obtain ⟨h1, h2, h3, h4, h5, h6, h7, h8, h9⟩ := id hKI
      obtain ⟨j1, j2, j3, j4, j5⟩ := id hJ
      obtain ⟨b1, b2, b3, b4⟩ := id j3
      have e11 : J w 11 = nI N := by rw [j2 11 (by omega) (by omega)]; exact y11
      have e4 : ∀ i, i ≤ N → J (w + 4) i = nI (tp i) := fun i hi => by rw [j1 _ (by omega) (by omega)]; exact y4 i hi
      have eT : kTx J (w + 1) (1500 * t0) tf (len t0) := kTx_of hT1 (j1 _ (by omega) (by omega))
      have hstep : kKp tf tp c0 p0 f0 (k + 1) = kKs tf tp k (c, p, f, gg) := by rw [kKp, hst]; rfl
      have m1 := hinc' k hkN
      have m2 := hple (k + 1)
      have eb : kBl tp k = tp (k + 1) - tp k := rfl
      have hle := kFd_le (f := f) (p := p) (c := c) (tf := tf) (tp := tp) (k := k)
      have final : ∀ (M : kv_IM) (c' v : Nat) (p' f' : Nat → Nat), v < c' → c' ≤ 300 → kKp tf tp c0 p0 f0 (k + 1) = some (c', p', f', kU gg k v) → (∀ a, a ≠ w → (a < w + 6 ∨ w + 12 < a ∨ a = w + 10 ∨ a = w + 11) → M a = I1 a) → (∀ i, i ≠ 15 → i ≠ 16 → M w i = I1 w i) → StB M w c' p' f' (fun m => (if m < c0 then u m else 0) + kCt gg k m) → M (w + 12) = J (w + 12) → kv_V y_Md_keep d B QQ 0 0 n S M 253 [(0, .ref w), (1, .int (nI t0)), (2, .int (nI q)), (3, .int (nI c0)), (4, .int (nI (p0 c0))), (5, .int (nI k)), (6, .int (nI v))] [] := by
        intro M c' v p' f' hv hc' hkp x1 x2 x3 x4
        refine bl_Md_keep_253 s0 rfl s9 (j4 := v) ⟨rfl, by omega, by omega⟩ rfl s12 (j7 := 1500 * q + k) ⟨?_, by omega, by omega⟩ ?_
        · show nI 1500 * nI q + nI k = _
          rw [pk_mul, nI_add]
        rw [nI_1]
        obtain ⟨z1, z2, z3, z4⟩ := x3
        refine ih (k + 1) _ c' p' f' (kU gg k v) (by omega) hkp ⟨fun a a1 a2 => ?_, fun i a1 a2 => ?_, ⟨?_, ?_, kTx_of z3 ?_, fun m hm => ⟨?_, ?_, ?_⟩⟩, fun i hi => ?_, fun i hi => ?_⟩
        · rw [up_ne (by omega), up_ne (by omega)]
          exact x1 a a1 a2
        · rw [up_ne (by omega), up_ne (by omega)]
          exact x2 i a1 a2
        · rw [up_ne (by omega), up_ne (by omega)]
          exact z1
        · rw [up_ne (by omega), up_ne (by omega)]
          exact z2
        · rw [up_ne (by omega), up_ne (by omega)]
        · rw [up_ne (by omega), up_ne (by omega)]
          exact (z4 m hm).1
        · rw [up_ne (by omega), up_ne (by omega)]
          exact (z4 m hm).2.1
        · rw [up_ne (by omega)]
          have ez : M (w + 9) m = nI ((if m < c0 then u m else 0) + kCt gg k m) := (z4 m hm).2.2
          show _ = nI ((if m < c0 then u m else 0) + kCt (kU gg k v) (k + 1) m)
          by_cases e : m = v
          · subst e
            rw [up_at, ez, nI_1, kCt_u, if_pos rfl]
            congr 1
          · have e3 : (if v = m then 1 else 0) = 0 := if_neg (fun r => e r.symm)
            rw [up_i e, ez, kCt_u, e3]
            rfl
        · by_cases e : i = k
          · rw [e, up_at, kU_s]
          · rw [up_i (by omega), up_ne (by omega), x4, kU_n e]
            exact j4 i (by omega)
        · rw [up_i (by omega), up_ne (by omega), x4]
          exact j5 i hi
      have back : kKp tf tp c0 p0 f0 N = none → ∀ (a6 a7 : Int32), kv_V y_Md_keep d B QQ 0 0 n S J 138 [(0, .ref w), (1, .int (nI t0)), (2, .int (nI q)), (3, .int (nI c0)), (4, .int (nI (p0 c0))), (5, .int (nI k)), (6, .int a6), (7, .int a7)] [] := by
        intro hnone a6 a7
        refine bp_Md_keep_138 (dc := 0) s0 (c_Md_giveUp (gg := gg) (nI c0) (nI (p0 c0)) hS hq (by omega) (fun i hi => ⟨j4 i hi, by have := (h8 i hi).1; omega⟩)) (by omega) (fun v M hv => ?_)
        obtain ⟨rfl, v1, v2, v3, v4, v5⟩ := hv
        rw [← hQQ, hnone]
        have hpm : p0 c0 ≤ p c := by
          rw [← h6 c0 (Nat.le_refl _)]
          exact kMon h3 h1 (Nat.le_refl _)
        refine bl_Md_keep_148 ⟨rfl, rfl, rfl, fun a ha => ?_, ?_, ⟨v3, v2, fun i hi => ?_, fun m hm => ?_⟩, fun q' hq' => ?_⟩
        · rw [v1 a (by omega) (by omega), j1 a (by omega) (by omega)]
          exact hF1 a ha
        · refine MdA_of hA1 (fun i a1 a2 => ?_) (fun a a1 a2 => ?_)
          · rw [v4 i (by omega) (by omega)]
            exact j2 i (by omega) (by omega)
          · rw [v1 a (by omega) (by omega)]
            exact j1 a (by omega) (by omega)
        · rw [v1 _ (by omega) (by omega), ← h7 i hi]
          exact b3 i (by omega)
        · obtain ⟨w1, w2, w3⟩ := b4 m (by omega)
          refine ⟨?_, ?_, ?_⟩
          · rw [v1 _ (by omega) (by omega), w1, h6 m (by omega)]
          · rw [v1 _ (by omega) (by omega), w2]
            show nI (p (m + 1) - p m) = nI (p0 (m + 1) - p0 m)
            rw [h6 m (by omega), h6 (m + 1) (by omega)]
          · rw [v5, w3]
            show nI ((if m < c0 then u m else 0) + kCt gg k m) + _ = _
            rw [if_pos hm, z_m1 (by omega)]
            congr 1
            omega
        · obtain ⟨y1, y2⟩ := hN1 q' hq'
          refine ⟨?_, fun ht => ?_⟩
          · rw [v1 _ (by omega) (by omega), j1 _ (by omega) (by omega)]
            exact y1
          · have hne : q' ≠ q := fun r => by rw [r, hfq] at ht; cases ht
            obtain ⟨y3, y5⟩ := y2 ht
            have hz := (k6 q' hq' ht).1
            refine ⟨?_, fun i hi => ?_⟩
            · rw [v1 _ (by omega) (by omega), j1 _ (by omega) (by omega)]
              exact y3
            · rw [v1 _ (by omega) (by omega), j5 _ (by omega)]
              exact y5 i hi
      refine bl_Md_keep_73 s0 (fun h => absurd h (by rw [e11]; exact nI_ge (by omega) (by omega))) (fun _ => ?_)
      refine bp_Md_keep_82 (dc := 1) s0 (c_Md_find (by omega) hS ht4 hkN (by omega) eT g1 e4 m1 m2 j3 h2 h4 h3) (by omega) (fun v M hv => ?_)
      obtain ⟨rfl, rfl⟩ := hv
      by_cases hc : kFd f p c tf tp k = c
      · have efv : kFv c (kFd f p c tf tp k) = -1 := if_pos hc
        rw [efv]
        refine bl_Md_keep_89 (fun h => absurd h (by decide)) (fun _ => ?_)
        have hfail : (c = 300 ∨ 6000 < p c + kBl tp k) → kKp tf tp c0 p0 f0 N = none := by
          intro hr
          refine kKp_none (k := k + 1) ?_ (by omega)
          rw [hstep]
          show (if kFd f p c tf tp k = c then _ else _) = _
          rw [if_pos hc]
          show (if c = 300 ∨ 6000 < p c + kBl tp k then _ else _) = _
          rw [if_pos hr]
        refine bl_Md_keep_96 s0 rfl s4 (j4 := k + 1) ⟨nI_1 k, by omega, by omega⟩ ⟨rfl, by omega, by omega⟩ (fun h => ?_) (fun h => ?_)
        · have h : J w 16 = nI 300 := h
          rw [b2, nI_eq (by omega) (by omega)] at h
          exact back (hfail (Or.inl h)) _ _
        have hc300 : ¬ c = 300 := fun r => h (by rw [b2, r]; rfl)
        rw [e4 (k + 1) (by omega), e4 k (by omega), pk_sub (by omega)]
        refine bl_Md_keep_125 s0 (fun h => ?_) (fun h => ?_)
        rotate_left
        · have h : ¬ (J w 15 + nI (tp (k + 1) - tp k) ≤ nI 6000) := h
          rw [b1, nI_add, nI_leI (by omega) (by omega)] at h
          exact back (hfail (Or.inr (by omega))) _ _
        have h : J w 15 + nI (tp (k + 1) - tp k) ≤ nI 6000 := h
        rw [b1, nI_add, nI_leI (by omega) (by omega)] at h
        refine bl_Md_keep_149 s0 rfl s7 (j4 := c) ⟨b2, by omega, by omega⟩ rfl s8 (j7 := c) ⟨b2, by omega, by omega⟩ rfl s9 (j10 := c) ⟨b2, by omega, by omega⟩ ?_
        rw [b1, b2]
        generalize hM0 : kv_up (kv_up (kv_up J (w + 7) c (nI (p c))) (w + 8) c (nI (tp (k + 1) - tp k))) (w + 9) c 0 = M0
        have q0 : ∀ a, a ≠ w + 7 → a ≠ w + 8 → a ≠ w + 9 → M0 a = J a := fun a a1 a2 a3 => by rw [← hM0, up_ne a3, up_ne a2, up_ne a1]
        have q7 : ∀ i, M0 (w + 7) i = if i = c then nI (p c) else J (w + 7) i := by
          intro i
          rw [← hM0, up_ne (by omega), up_ne (by omega)]
          by_cases e : i = c
          · rw [if_pos e, e, up_at]
          · rw [if_neg e, up_i e]
        have q8 : ∀ i, M0 (w + 8) i = if i = c then nI (tp (k + 1) - tp k) else J (w + 8) i := by
          intro i
          rw [← hM0, up_ne (by omega)]
          by_cases e : i = c
          · rw [if_pos e, e, up_at]
          · rw [if_neg e, up_i e, up_ne (by omega)]
        have q9 : ∀ i, M0 (w + 9) i = if i = c then 0 else J (w + 9) i := by
          intro i
          rw [← hM0]
          by_cases e : i = c
          · rw [if_pos e, e, up_at]
          · rw [if_neg e, up_i e, up_ne (by omega), up_ne (by omega)]
        clear hM0
        have inner : ∀ (j' i : Nat) (M : kv_IM), i + j' = tp (k + 1) - tp k → (∀ a, a ≠ w + 6 → M a = M0 a) → (∀ y, (y < p c ∨ p c + i ≤ y) → M (w + 6) y = J (w + 6) y) → (∀ y, y < i → M (w + 6) (p c + y) = nI (tf (tp k + y))) → kv_V y_Md_keep d B QQ 0 0 n S M 186 [(0, .ref w), (1, .int (nI t0)), (2, .int (nI q)), (3, .int (nI c0)), (4, .int (nI (p0 c0))), (5, .int (nI k)), (6, .int (nI c)), (7, .int (nI (tp (k + 1) - tp k))), (8, .int (nI i))] [] := by
          intro j'
          induction j' with
          | zero =>
            intro i M hi r1 r2 r3
            have hi' : i = tp (k + 1) - tp k := by omega
            refine bl_Md_keep_186 (fun _ => ?_) (fun r => absurd (nI_le (by omega) (by omega)) r)
            refine bl_Md_keep_232 s0 ?_
            have e15 : M w 15 = nI (p c) := by rw [r1 _ (by omega), q0 _ (by omega) (by omega) (by omega)]; exact b1
            have e16 : M w 16 = nI c := by rw [r1 _ (by omega), q0 _ (by omega) (by omega) (by omega)]; exact b2
            have e16' : kv_up M w 15 (M w 15 + nI (tp (k + 1) - tp k)) w 16 = nI c := by rw [up_i (by omega)]; exact e16
            rw [e16', e15, nI_add, nI_1]
            have hnew : kKp tf tp c0 p0 f0 (k + 1) = some (c + 1, kU p (c + 1) (p c + kBl tp k), fun x => if x < p c then f x else tf (tp k + (x - p c)), kU gg k c) := by
              rw [hstep]
              show (if kFd f p c tf tp k = c then _ else _) = _
              rw [if_pos hc]
              show (if c = 300 ∨ 6000 < p c + kBl tp k then _ else _) = _
              rw [if_neg (by omega)]
            have xM : ∀ a, a ≠ w → kv_up (kv_up M w 15 (nI (p c + (tp (k + 1) - tp k)))) w 16 (nI (c + 1)) a = M a := fun a ha => by rw [up_ne ha, up_ne ha]
            refine final _ (c + 1) c _ _ (by omega) (by omega) hnew (fun a a1 a2 => ?_) (fun i' a1 a2 => ?_) ⟨?_, ?_, fun y hy => ?_, fun m hm => ?_⟩ ?_
            · rw [xM a a1, r1 a (by omega), q0 a (by omega) (by omega) (by omega)]
              exact j1 a a1 a2
            · rw [up_i a2, up_i a1, r1 w (by omega), q0 w (by omega) (by omega) (by omega)]
              exact j2 i' a1 a2
            · rw [up_i (by omega), up_at, kU_s]
            · rw [up_at]
            · rw [kU_s] at hy
              rw [xM _ (by omega), Nat.zero_add]
              show _ = nI (if y < p c then f y else tf (tp k + (y - p c))) ∧ (if y < p c then f y else tf (tp k + (y - p c))) < 256
              by_cases e : y < p c
              · rw [if_pos e, r2 y (Or.inl e)]
                have t := b3 y e
                rw [Nat.zero_add] at t
                exact t
              · rw [if_neg e]
                have t := r3 (y - p c) (by omega)
                rw [show p c + (y - p c) = y by omega] at t
                exact ⟨t, (eT (tp k + (y - p c)) (by omega)).2⟩
            · rw [xM _ (by omega), xM _ (by omega), xM _ (by omega), r1 _ (by omega), r1 _ (by omega), r1 _ (by omega), q7, q8, q9]
              by_cases e : m = c
              · subst e
                rw [if_pos rfl, if_pos rfl, if_pos rfl]
                refine ⟨?_, ?_, ?_⟩
                · rw [kU_n (by omega)]
                · show _ = nI (kU p (m + 1) (p m + kBl tp k) (m + 1) - kU p (m + 1) (p m + kBl tp k) m)
                  rw [kU_s, kU_n (by omega)]
                  congr 1
                  omega
                · show 0 = nI ((if m < c0 then u m else 0) + kCt gg k m)
                  rw [if_neg (by omega), kCt_zero (fun i hi => by have := (h8 i hi).1; omega)]
                  rfl
              · rw [if_neg e, if_neg e, if_neg e]
                obtain ⟨w1, w2, w3⟩ := b4 m (by omega)
                refine ⟨?_, ?_, w3⟩
                · rw [kU_n (by omega)]
                  exact w1
                · rw [w2]
                  show nI (p (m + 1) - p m) = nI (kU p (c + 1) (p c + kBl tp k) (m + 1) - kU p (c + 1) (p c + kBl tp k) m)
                  rw [kU_n (by omega), kU_n (by omega)]
            · rw [xM _ (by omega), r1 _ (by omega), q0 _ (by omega) (by omega) (by omega)]
          | succ j' ih' =>
            intro i M hi r1 r2 r3
            have e15 : M w 15 = nI (p c) := by rw [r1 _ (by omega), q0 _ (by omega) (by omega) (by omega)]; exact b1
            have eM4 : M (w + 4) k = nI (tp k) := by rw [r1 _ (by omega), q0 _ (by omega) (by omega) (by omega)]; exact e4 k (by omega)
            have eM1 : M (w + 1) (1500 * t0 + (tp k + i)) = nI (tf (tp k + i)) := by rw [r1 _ (by omega), q0 _ (by omega) (by omega) (by omega)]; exact (eT (tp k + i) (by omega)).1
            refine bl_Md_keep_186 (fun r => absurd r (nI_ge (by omega) (by omega))) (fun _ => ?_)
            refine bl_Md_keep_193 s0 rfl rfl rfl s4 (j6 := k) ⟨rfl, by omega, by omega⟩ s1 (j8 := 1500 * t0 + (tp k + i)) ⟨?_, by omega, by omega⟩ s6 (j10 := p c + i) ⟨by rw [e15, nI_add], by omega, by omega⟩ ?_
            · rw [eM4]
              show nI 1500 * nI t0 + nI (tp k) + nI i = _
              rw [pk_mul, nI_add, nI_add, Nat.add_assoc]
            rw [eM1, nI_1]
            refine ih' (i + 1) _ (by omega) (fun a ha => by rw [up_ne ha]; exact r1 a ha) (fun y hy => ?_) (fun y hy => ?_)
            · rw [up_i (by omega)]
              exact r2 y (by omega)
            · by_cases e : y = i
              · rw [e, up_at]
              · rw [up_i (by omega)]
                exact r3 y (by omega)
        exact inner _ 0 M0 (Nat.zero_add _) (fun _ _ => rfl) (fun y _ => by rw [q0 _ (by omega) (by omega) (by omega)]) (fun y hy => absurd hy (Nat.not_lt_zero _))
      · have efv : kFv c (kFd f p c tf tp k) = nI (kFd f p c tf tp k) := if_neg hc
        rw [efv]
        refine bl_Md_keep_89 (fun _ => ?_) (fun h => absurd (nI_pos' (by omega)) h)
        refine final J c _ p f (by omega) h2 ?_ j1 j2 j3 rfl
        rw [hstep]
        show (if kFd f p c tf tp k = c then _ else _) = _
        rw [if_neg hc]
  refine loop N 0 I1 c0 p0 f0 (fun _ => 0) (by omega) rfl ⟨fun _ _ _ => rfl, fun _ _ _ => rfl, ?_, fun i hi => absurd hi (by omega), fun _ _ => rfl⟩
  obtain ⟨b1, b2, b3, b4⟩ := hB1
  refine ⟨b1, b2, b3, fun k hk => ?_⟩
  obtain ⟨w1, w2, w3⟩ := b4 k hk
  refine ⟨w1, w2, ?_⟩
  rw [w3]
  show nI (u k) = nI ((if k < c0 then u k else 0) + 0)
  rw [if_pos hk]
  rfl
