def kAi (A : Nat → Bool) (i : Nat) : Nat → Bool := fun k => decide (k < i) || A k
theorem kAi_lo {A : Nat → Bool} {i k : Nat} (h : k < i) : kAi A i k = true := by
  unfold kAi
  rw [decide_eq_true h]
  rfl
theorem kAi_A {A : Nat → Bool} {i k : Nat} (h : A k = true) : kAi A i k = true := by
  unfold kAi
  rw [h, Bool.or_true]
theorem kAi_0 {A : Nat → Bool} : kAi A 0 = A := by
  funext k
  unfold kAi
  rw [decide_eq_false (by omega)]
  rfl
theorem kAi_t {A : Nat → Bool} {i : Nat} (h : A i = true) : kAi A (i + 1) = kAi A i := by
  funext k
  unfold kAi
  by_cases e : k = i
  · subst e
    rw [h, Bool.or_true, Bool.or_true]
  · by_cases e2 : k < i
    · rw [decide_eq_true e2, decide_eq_true (show k < i + 1 by omega)]
    · rw [decide_eq_false e2, decide_eq_false (show ¬ k < i + 1 by omega)]
theorem kAi_f {A : Nat → Bool} {i : Nat} (h : A i = false) : kU (kAi A (i + 1)) i false = kAi A i := by
  funext k
  by_cases e : k = i
  · subst e
    rw [kU_s]
    unfold kAi
    rw [h, decide_eq_false (by omega)]
    rfl
  · rw [kU_n e]
    unfold kAi
    by_cases e2 : k < i
    · rw [decide_eq_true e2, decide_eq_true (show k < i + 1 by omega)]
    · rw [decide_eq_false e2, decide_eq_false (show ¬ k < i + 1 by omega)]
theorem kMr_end {J : kv_IM} {w c : Nat} {p f u : Nat → Nat} {th : Nat → Bool} {z : Nat → Nat} {g : Nat → Nat → Nat} {A : Nat → Bool} (h : kMr J w c p f u th z g A) (hb : ∀ j, j < c → ∀ i, i < kBl p j → f (p j + i) < 256) (hf : ∀ q, q < 10 → J (w + 10) q = kBo (th q) ∧ (th q = true → J (w + 11) q = nI (z q))) : StM J w (kCmp A (c, p, f, u, th, z, g)) := by
  obtain ⟨b1, b2, b3, b4, b5⟩ := h
  refine ⟨⟨?_, b1, fun y hy => ?_, fun m hm => ?_⟩, fun q hq => ⟨(hf q hq).1, fun ht => ⟨(hf q hq).2 ht, fun i hi => b5 q hq ht i hi⟩⟩⟩
  · rw [kPn_at (Nat.le_refl _)]
    exact b2
  · rw [kPn_at (Nat.le_refl _)] at hy
    obtain ⟨j, i, x1, x2, x3, rfl⟩ := kQu_byte hy
    rw [Nat.zero_add, kFn_at x1 x2 x3]
    exact ⟨b4 j x1 x2 i x3, hb j x1 i x3⟩
  · obtain ⟨j, x1, x2, rfl⟩ := kNu_ex hm
    rw [kPn_at (by omega), kBl_n x1 x2, kUn_at x1 x2]
    exact b3 j x1 x2
theorem c_Md_drop {d : Nat} {B : kv_B} {n : Nat} {S : kv_SM} {I : kv_IM} (hd : 2 ≤ d) {w : Nat} {ru : Nat → Nat} {tab : Nat → Int32} {len : Nat → Nat} {tb : Nat → Nat → Nat} {σ : kSt} (t : Int32) (hS : MdS S w) (hA' : MdA I w ru tab len tb) (hM' : StM I w σ) (hK : StK σ) :
    kv_P y_Md_drop d B [.ref w, .int t] n S I (fun v J => v = some (.int (sDrop σ t).1) ∧ kFr w (w + 13) I J ∧ MdA J w ru tab len tb ∧ StM J w (sDrop σ t).2) := by
  obtain ⟨c, p, f, u, th, z, g⟩ := σ
  obtain ⟨s0, s1, s2, s3, s4, s5, s6, s7, s8, s9, s10, s11, s12, s13⟩ := id hS
  obtain ⟨k1, k2, k3, k4, k5, k6, k7⟩ := id hK
  have hA0 := kC0_A hA'
  have hM0 := StM_K hM' (kC0_K (I := I) (w := w))
  obtain ⟨m1, m2⟩ := id hM0
  have hF0 : kFr w (w + 13) I (kC0 I w) := fun a ha => kC0_ne (by omega)
  refine kv_P.of (by decide +kernel) rfl (Nat.le_of_ble_eq_true rfl) ?_
  refine bp_Md_drop_0 (dc := 1) s0 (c_Md_isSnapshot (by omega) t hS (I := kC0 I w) (fun q hq => (m2 q hq).1)) (by omega) (fun v J hv => ?_)
  obtain ⟨rfl, rfl⟩ := hv
  refine bl_Md_drop_10 (fun h => ?_) (fun h => ?_)
  rotate_left
  · have e : sDrop (c, p, f, u, th, z, g) t = (-1, (c, p, f, u, th, z, g)) := if_neg (kB_e0.mp h)
    rw [e]
    exact bl_Md_drop_13 ⟨rfl, rfl, rfl, hF0, hA0, hM0⟩
  have hn := Classical.not_not.mp (fun q => h (kB_e0.mpr q))
  have hq := kT10 hn
  obtain ⟨i1, -, -⟩ := tN_of hn.1.1
  have e : sDrop (c, p, f, u, th, z, g) t = (nI (p c - kQu (kA1 u z g (tN t)) p c), kCmp (kA1 u z g (tN t)) (c, p, f, kU1 u z g (tN t), kU th (tN t) false, z, g)) := if_pos hn
  rw [e]
  have htq := hn.2
  obtain ⟨d1, d2⟩ := kDrp hK hq hn.2
  clear e h hn hM' hA'
  generalize tN t = q at *
  subst i1
  generalize kC0 I w = I0 at *
  obtain ⟨e1, e2⟩ := (m2 q hq).2 htq
  obtain ⟨o1, o2, o3⟩ := k6 q hq htq
  obtain ⟨b1, b2, b3, b4⟩ := id m1
  have hO1 := kOw_th (q := q) k6
  generalize hu1 : kU1 u z g q = u1 at *
  have hA1 : ∀ k, kA1 u z g q k = decide (0 < u1 k) := fun k => by rw [← hu1]; rfl
  generalize hth : kU th q false = th1 at *
  generalize kA1 u z g q = A at *
  refine bl_Md_drop_15 s0 rfl s10 (j4 := q) ⟨rfl, hq, by omega⟩ ?_
  generalize hQQ : kv_PQ n S (fun v J => v = some (.int (nI (p c - kQu A p c))) ∧ kFr w (w + 13) I J ∧ MdA J w ru tab len tb ∧ StM J w (kCmp A (c, p, f, u1, th1, z, g))) = QQ
  have fl : ∀ (J : kv_IM), (∀ a, a ≠ w → (a < w + 6 ∨ w + 12 < a ∨ a = w + 11) → J a = I0 a) → (∀ i, J (w + 10) i = if i = q then 0 else I0 (w + 10) i) → ∀ q', q' < 10 → J (w + 10) q' = kBo (th1 q') ∧ (th1 q' = true → J (w + 11) q' = nI (z q')) := by
    intro J a1 a2 q' hq'
    rw [a2, a1 (w + 11) (by omega) (by omega), ← hth]
    by_cases ee : q' = q
    · rw [if_pos ee, ee, kU_s]
      exact ⟨rfl, fun r => by cases r⟩
    · rw [if_neg ee, kU_n ee]
      exact ⟨(m2 q' hq').1, fun r => ((m2 q' hq').2 r).1⟩
  have loop2 : ∀ (i : Nat) (J : kv_IM), i ≤ c → (∀ a, a ≠ w → (a < w + 6 ∨ w + 12 < a ∨ a = w + 11) → J a = I0 a) → (∀ i, i ≠ 15 → i ≠ 16 → J w i = I0 w i) → (∀ i, J (w + 10) i = if i = q then 0 else I0 (w + 10) i) → kMr J w c p f u1 th1 z g (kAi A i) → kv_V y_Md_drop d B QQ 0 0 n S J 73 [(0, .ref w), (1, .int (nI q)), (2, .int (nI (p c))), (3, .int (nI i - 1))] [] := by
    intro i
    induction i with
    | zero =>
      intro J _ a1 a2 a3 a4
      rw [kAi_0] at a4
      refine bl_Md_drop_73 (fun _ => ?_) (fun h => absurd (by decide) h)
      rw [← hQQ]
      have hql := kQu_le (A := A) k2 k3 c (Nat.le_refl _)
      refine bl_Md_drop_97 s0 ⟨rfl, rfl, ?_, fun a ha => ?_, MdA_of hA0 (fun i' x1 x2 => a2 i' (by omega) (by omega)) (fun a x1 x2 => a1 a (by omega) (by omega)), kMr_end a4 (fun j hj i hi => ?_) (fl J a1 a3)⟩
      · rw [a4.2.1, pk_sub hql]
      · rw [a1 a (by omega) (by omega)]; exact hF0 a ha
      · have h1 := k3 j hj
        have h2 := kMon k3 (i := j + 1) (k := c) (by omega) (Nat.le_refl _)
        have h3 : kBl p j = p (j + 1) - p j := rfl
        exact (b3 (p j + i) (by omega)).2
    | succ i ih =>
      intro J hi a1 a2 a3 a4
      rw [nI_pred]
      have hic : i < c := by omega
      have nx : kNu (kAi A (i + 1)) i = i := kNu_full (fun k hk => kAi_lo (by omega))
      obtain ⟨x7, x8, x9⟩ := a4.2.2.1 i hic (kAi_lo (by omega))
      rw [nx] at x9
      have hub : u1 i < 2 ^ 31 := by
        have := (d1 i hic).2.2
        rw [← hu1]
        unfold kU1
        omega
      refine bl_Md_drop_73 (fun h => absurd h (nI_pos (by omega))) (fun _ => ?_)
      refine bl_Md_drop_77 s0 rfl s9 (j4 := i) ⟨rfl, by omega, by omega⟩ (fun h => ?_) (fun h => ?_)
      · rw [x9] at h
        have hpos : A i = true := by
          rw [hA1]
          refine decide_eq_true (Nat.pos_of_ne_zero (fun r => h ?_))
          rw [r]
          rfl
        refine bl_Md_drop_91 ?_
        rw [← Int32.sub_eq_add_neg]
        rw [kAi_t hpos] at a4
        exact ih J (by omega) a1 a2 a3 a4
      · rw [x9] at h
        have h0 : u1 i = 0 := (nI_eq hub (by omega)).mp (show nI (u1 i) = nI 0 from h)
        have hneg : A i = false := by
          rw [hA1, h0]
          rfl
        refine bp_Md_drop_86 (dc := 0) s0 (c_Md_takeOut hS k1 k2 k3 k4 a4 hic (fun k hk => kAi_lo (by omega)) (fun q' hq' ht => ⟨(hO1 q' hq' ht).1, fun i' hi' => ?_⟩) (fl J a1 a3)) (by omega) (fun v M hv => ?_)
        · have hAg := d2 q' hq' ht i' hi'
          refine ⟨(hO1 q' hq' ht).2.1 i' hi', kAi_A hAg, fun r => ?_⟩
          rw [r, hneg] at hAg
          cases hAg
        · obtain ⟨rfl, ⟨v1, v2⟩, v3⟩ := hv
          refine bl_Md_drop_91 ?_
          rw [← Int32.sub_eq_add_neg]
          rw [kAi_f hneg] at v3
          refine ih M (by omega) (fun a x1 x2 => ?_) (fun i' x1 x2 => ?_) (fun i' => ?_) v3
          · rw [v1 a x1 (by omega)]; exact a1 a x1 x2
          · rw [v2 i' x1 x2]; exact a2 i' x1 x2
          · rw [v1 _ (by omega) (by omega)]; exact a3 i'
  have loop1 : ∀ (j i : Nat) (J : kv_IM), i + j = z q → (∀ a, a ≠ w + 9 → a ≠ w + 10 → J a = I0 a) → (∀ i, J (w + 10) i = if i = q then 0 else I0 (w + 10) i) → (∀ m, J (w + 9) m = I0 (w + 9) m + nI (kCt (g q) i m) * (-1)) → kv_V y_Md_drop d B QQ 0 0 n S J 24 [(0, .ref w), (1, .int (nI q)), (2, .int (nI i))] [] := by
    intro j
    induction j with
    | zero =>
      intro i J hi a1 a3 a4
      have e11 : J (w + 11) q = nI (z q) := by rw [a1 _ (by omega) (by omega)]; exact e1
      refine bl_Md_drop_24 s0 rfl s11 ⟨rfl, hq, by omega⟩ (fun _ => ?_) (fun h => absurd (by rw [e11]; exact nI_le (by omega) (by omega)) h)
      refine bl_Md_drop_61 s0 ?_
      have e15 : J w 15 = nI (p c) := by rw [a1 _ (by omega) (by omega)]; exact b1
      have e16 : J w 16 = nI c := by rw [a1 _ (by omega) (by omega)]; exact b2
      rw [e15, e16]
      have nf : ∀ k, k ≤ c → kNu (kAi A c) k = k := fun k hk => kNu_full (fun i hi => kAi_lo (by omega))
      have qf : ∀ k, k ≤ c → kQu (kAi A c) p k = p k := fun k hk => kQu_full k2 k3 k hk (nf k hk)
      refine loop2 c J (Nat.le_refl _) (fun a x1 x2 => a1 a (by omega) (by omega)) (fun i' _ _ => by rw [a1 _ (by omega) (by omega)]) a3 ⟨?_, ?_, fun j hj _ => ?_, fun j hj _ i' hi' => ?_, fun q' hq' ht i' hi' => ?_⟩
      · rw [nf c (Nat.le_refl _)]; exact e16
      · rw [qf c (Nat.le_refl _)]; exact e15
      · obtain ⟨w1, w2, w3⟩ := b4 j hj
        obtain ⟨y1, y2, y3⟩ := d1 j hj
        rw [nf j (by omega), qf j (by omega), a1 (w + 7) (by omega) (by omega), a1 (w + 8) (by omega) (by omega), a4]
        refine ⟨w1, w2, ?_⟩
        rw [w3, show i = z q by omega, z_m1 y2, ← hu1]
        rfl
      · have h1 := k3 j hj
        have h2 := kMon k3 (i := j + 1) (k := c) (by omega) (Nat.le_refl _)
        have h3 : kBl p j = p (j + 1) - p j := rfl
        rw [qf j (by omega), a1 _ (by omega) (by omega)]
        have t := (b3 (p j + i') (by omega)).1
        rw [Nat.zero_add] at t
        exact t
      · have hg := (hO1 q' hq' ht).2.1 i' hi'
        rw [nf _ (by omega), a1 _ (by omega) (by omega)]
        have hne : q' ≠ q := fun r => by
          rw [← hth, r, kU_s] at ht
          cases ht
        have ht' : th q' = true := by
          rw [← hth, kU_n hne] at ht
          exact ht
        exact ((m2 q' hq').2 ht').2 i' hi'
    | succ j ih =>
      intro i J hi a1 a3 a4
      have e11 : J (w + 11) q = nI (z q) := by rw [a1 _ (by omega) (by omega)]; exact e1
      have hgc := o2 i (by omega)
      refine bl_Md_drop_24 s0 rfl s11 ⟨rfl, hq, by omega⟩ (fun h => absurd h (by rw [e11]; exact nI_ge (by omega) (by omega))) (fun _ => ?_)
      refine bl_Md_drop_34 s0 rfl rfl s12 (j5 := 1500 * q + i) ⟨?_, by omega, by omega⟩ s9 (j7 := g q i) ⟨by rw [a1 _ (by omega) (by omega)]; exact e2 i (by omega), by omega, by omega⟩ ?_
      · show nI 1500 * nI q + nI i = _
        rw [pk_mul, nI_add]
      rw [nI_1]
      refine ih (i + 1) _ (by omega) (fun a x1 x2 => by rw [up_ne x1]; exact a1 a x1 x2) (fun i' => by rw [up_ne (by omega)]; exact a3 i') (fun m => ?_)
      by_cases ee : m = g q i
      · rw [ee, up_at, a4, z_dec, kCt_s, if_pos rfl]
      · rw [up_i ee, a4, kCt_s, if_neg (fun r => ee r.symm)]
        rfl
  refine loop1 (z q) 0 _ (by omega) (fun a x1 x2 => up_ne x2) (fun i => ?_) (fun m => ?_)
  · by_cases ee : i = q
    · rw [ee, up_at, if_pos rfl]
    · rw [up_i ee, if_neg ee]
  · rw [up_ne (by omega)]
    exact z_dec0
