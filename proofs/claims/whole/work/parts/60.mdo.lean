theorem kNu_rm1 {A : Nat → Bool} {i : Nat} : ∀ {k : Nat}, k ≤ i → kNu (kU A i false) k = kNu A k
  | 0, _ => rfl
  | k + 1, h => by
    have e := kNu_rm1 (A := A) (i := i) (k := k) (by omega)
    have e2 : kU A i false k = A k := kU_n (by omega)
    cases ha : A k
    · rw [kNu_f (e2.trans ha), kNu_f ha, e]
    · rw [kNu_t (e2.trans ha), kNu_t ha, e]
theorem kNu_rm2 {A : Nat → Bool} {i : Nat} (hi : A i = true) : ∀ {k : Nat}, i < k → kNu (kU A i false) k + 1 = kNu A k
  | 0, h => absurd h (by omega)
  | k + 1, h => by
    by_cases e : i = k
    · subst e
      have e2 : kU A i false i = false := kU_s
      rw [kNu_f e2, kNu_t hi, kNu_rm1 (Nat.le_refl _)]
    · have e1 := kNu_rm2 hi (k := k) (by omega)
      have e2 : kU A i false k = A k := kU_n (by omega)
      cases ha : A k
      · rw [kNu_f (e2.trans ha), kNu_f ha, e1]
      · rw [kNu_t (e2.trans ha), kNu_t ha, e1]
theorem kQu_rm1 {A : Nat → Bool} {p : Nat → Nat} {i : Nat} : ∀ {k : Nat}, k ≤ i → kQu (kU A i false) p k = kQu A p k
  | 0, _ => rfl
  | k + 1, h => by
    have e := kQu_rm1 (A := A) (p := p) (i := i) (k := k) (by omega)
    have e2 : kU A i false k = A k := kU_n (by omega)
    cases ha : A k
    · rw [kQu_f (e2.trans ha), kQu_f ha, e]
    · rw [kQu_t (e2.trans ha), kQu_t ha, e]
theorem kQu_rm2 {A : Nat → Bool} {p : Nat → Nat} {i : Nat} (hi : A i = true) : ∀ {k : Nat}, i < k → kQu (kU A i false) p k + kBl p i = kQu A p k
  | 0, h => absurd h (by omega)
  | k + 1, h => by
    by_cases e : i = k
    · subst e
      have e2 : kU A i false i = false := kU_s
      rw [kQu_f e2, kQu_t hi, kQu_rm1 (Nat.le_refl _)]
    · have e1 := kQu_rm2 (p := p) hi (k := k) (by omega)
      have e2 : kU A i false k = A k := kU_n (by omega)
      cases ha : A k
      · rw [kQu_f (e2.trans ha), kQu_f ha, e1]
      · rw [kQu_t (e2.trans ha), kQu_t ha, ← e1]
        omega
theorem kNu_full {A : Nat → Bool} : ∀ {m : Nat}, (∀ k, k < m → A k = true) → kNu A m = m
  | 0, _ => rfl
  | m + 1, h => by rw [kNu_t (h m (by omega)), kNu_full (fun k hk => h k (by omega))]
def kMr (J : kv_IM) (w c : Nat) (p f u : Nat → Nat) (th : Nat → Bool) (z : Nat → Nat) (g : Nat → Nat → Nat) (A : Nat → Bool) : Prop :=
  J w 16 = nI (kNu A c) ∧ J w 15 = nI (kQu A p c) ∧ (∀ j, j < c → A j = true → J (w + 7) (kNu A j) = nI (kQu A p j) ∧ J (w + 8) (kNu A j) = nI (kBl p j) ∧ J (w + 9) (kNu A j) = nI (u j)) ∧ (∀ j, j < c → A j = true → ∀ i, i < kBl p j → J (w + 6) (kQu A p j + i) = nI (f (p j + i))) ∧ ∀ q, q < 10 → th q = true → ∀ i, i < z q → J (w + 12) (1500 * q + i) = nI (kNu A (g q i))
def kTo (w : Nat) (I J : kv_IM) : Prop := (∀ a, a ≠ w → (a < w + 6 ∨ w + 12 < a ∨ a = w + 10 ∨ a = w + 11) → J a = I a) ∧ ∀ i, i ≠ 15 → i ≠ 16 → J w i = I w i
theorem c_Md_takeOut {d : Nat} {B : kv_B} {n : Nat} {S : kv_SM} {I : kv_IM} {w c x : Nat} {p f u : Nat → Nat} {th : Nat → Bool} {z : Nat → Nat} {g : Nat → Nat → Nat} {A : Nat → Bool} (hS : MdS S w) (k1 : c ≤ 300) (k2 : p 0 = 0) (k3 : ∀ k, k < c → p k < p (k + 1)) (k4 : p c ≤ 6000) (hM : kMr I w c p f u th z g A) (hx : x < c) (hlow : ∀ k, k ≤ x → A k = true) (hg : ∀ q, q < 10 → th q = true → z q ≤ 1500 ∧ ∀ i, i < z q → g q i < c ∧ A (g q i) = true ∧ g q i ≠ x) (hf : ∀ q, q < 10 → I (w + 10) q = kBo (th q) ∧ (th q = true → I (w + 11) q = nI (z q))) :
    kv_P y_Md_takeOut d B [.ref w, .int (nI x)] n S I (fun v J => v = none ∧ kTo w I J ∧ kMr J w c p f u th z g (kU A x false)) := by
  obtain ⟨s0, s1, s2, s3, s4, s5, s6, s7, s8, s9, s10, s11, s12, s13⟩ := id hS
  obtain ⟨b1, b2, b3, b4, b5⟩ := id hM
  have hAx := hlow x (Nat.le_refl _)
  have nx : kNu A x = x := kNu_full (fun k hk => hlow k (by omega))
  have qx : kQu A p x = p x := kQu_full k2 k3 x (by omega) nx
  obtain ⟨i7, i8, i9⟩ := b3 x hx hAx
  rw [nx] at i7 i8 i9
  rw [qx] at i7
  have qx1 : kQu A p (x + 1) = p x + kBl p x := by rw [kQu_t hAx, qx]
  have qc1 := kQu_mono (A := A) (p := p) (k := x + 1) (k' := c) (by omega)
  have qc2 := kQu_le (A := A) k2 k3 c (Nat.le_refl _)
  have nc1 := kNu_lt (k := c) hAx hx
  have nc2 := kNu_le (A := A) c
  have m1 := k3 x hx
  have eb : kBl p x = p (x + 1) - p x := rfl
  rw [nx] at nc1
  refine kv_P.of (by decide +kernel) rfl (Nat.le_of_ble_eq_true rfl) ?_
  generalize hQQ : kv_PQ n S (fun v J => v = none ∧ kTo w I J ∧ kMr J w c p f u th z g (kU A x false)) = QQ
  refine bl_Md_takeOut_0 s0 rfl s8 ⟨rfl, by omega, by omega⟩ rfl s7 (j7 := x) ⟨rfl, by omega, by omega⟩ ?_
  rw [i8, i7]
  have loop3 : ∀ (K : kv_IM), kTo w I K → K w 16 = nI (kNu A c - 1) → K w 15 = nI (kQu A p c - kBl p x) → (∀ y, K (w + 6) y = if p x ≤ y ∧ y + kBl p x < kQu A p c then I (w + 6) (y + kBl p x) else I (w + 6) y) → (∀ y, K (w + 7) y = if x ≤ y ∧ y < kNu A c - 1 then I (w + 7) (y + 1) - nI (kBl p x) else I (w + 7) y) → (∀ y, K (w + 8) y = if x ≤ y ∧ y < kNu A c - 1 then I (w + 8) (y + 1) else I (w + 8) y) → (∀ y, K (w + 9) y = if x ≤ y ∧ y < kNu A c - 1 then I (w + 9) (y + 1) else I (w + 9) y) → K (w + 12) = I (w + 12) → ∀ (j q : Nat) (M : kv_IM), q + j = 10 → (∀ a, a ≠ w + 12 → M a = K a) → (∀ q', q' < q → th q' = true → ∀ i, i < z q' → M (w + 12) (1500 * q' + i) = nI (kNu (kU A x false) (g q' i))) → (∀ i, 1500 * q ≤ i → M (w + 12) i = I (w + 12) i) → kv_V y_Md_takeOut d B QQ 0 0 n S M 126 [(0, .ref w), (1, .int (nI x)), (2, .int (nI (kBl p x))), (3, .int (nI q))] [] := by
    intro K t0 t1 t2 t3 t4 t5 t6 t7 j
    induction j with
    | zero =>
      intro q M hq a1 a2 a3
      refine bl_Md_takeOut_126 (fun _ => ?_) (fun h => absurd (nI_le (a := 10) (by omega) (by omega)) h)
      rw [← hQQ]
      refine bl_Md_takeOut_205 ⟨rfl, rfl, rfl, ⟨fun a b1 b2 => ?_, fun i b1 b2 => ?_⟩, ?_, ?_, fun j hj hA => ?_, fun j hj hA i hi => ?_, fun q' hq' ht i hi => a2 q' (by omega) ht i hi⟩
      · rw [a1 a (by omega)]; exact t0.1 a b1 b2
      · rw [a1 w (by omega)]; exact t0.2 i b1 b2
      · rw [a1 w (by omega), t1, ← kNu_rm2 hAx hx, Nat.add_sub_cancel]
      · rw [a1 w (by omega), t2, ← kQu_rm2 (p := p) hAx hx, Nat.add_sub_cancel]
      · rw [a1 _ (by omega), a1 _ (by omega), a1 _ (by omega), t4, t5, t6]
        by_cases e : j < x
        · have hl := kNu_le (A := A) j
          rw [kNu_rm1 (by omega), kQu_rm1 (by omega), if_neg (by omega), if_neg (by omega), if_neg (by omega)]
          exact b3 j hj (hlow j (by omega))
        · have e2 : x < j := by
            apply Nat.lt_of_le_of_ne (by omega)
            intro r
            rw [← r, kU_s] at hA
            cases hA
          have hA' : A j = true := by
            rw [kU_n (by omega)] at hA
            exact hA
          have n1 := kNu_rm2 hAx e2
          have n2 := kQu_rm2 (p := p) hAx e2
          have n3 := kNu_lt (k := c) hA' hj
          have n4 := kNu_lt (k := j) hAx e2
          rw [nx] at n4
          obtain ⟨c7, c8, c9⟩ := b3 j hj hA'
          rw [if_pos (by omega), if_pos (by omega), if_pos (by omega), n1, c7, c8, c9, pk_sub (by omega)]
          refine ⟨?_, rfl, rfl⟩
          congr 1
          omega
      · rw [a1 _ (by omega), t3]
        by_cases e : j < x
        · have h1 := k3 j hj
          have h2 := kMon k3 (i := j + 1) (k := x) (by omega) (by omega)
          have h3 : kQu A p j = p j := kQu_full k2 k3 j (by omega) (kNu_full (fun k hk => hlow k (by omega)))
          have h4 : kBl p j = p (j + 1) - p j := rfl
          rw [kQu_rm1 (by omega), if_neg (by omega)]
          exact b4 j hj (hlow j (by omega)) i hi
        · have e2 : x < j := by
            apply Nat.lt_of_le_of_ne (by omega)
            intro r
            rw [← r, kU_s] at hA
            cases hA
          have hA' : A j = true := by
            rw [kU_n (by omega)] at hA
            exact hA
          have n2 := kQu_rm2 (p := p) hAx e2
          have n3 := kQu_mono (A := A) (p := p) (k := x + 1) (k' := j) (by omega)
          have n4 := kQu_mono (A := A) (p := p) (k := j + 1) (k' := c) (by omega)
          rw [kQu_t hA'] at n4
          rw [if_pos (by omega), show kQu (kU A x false) p j + i + kBl p x = kQu A p j + i by omega]
          exact b4 j hj hA' i hi
    | succ j ih =>
      intro q M hq a1 a2 a3
      have hq10 : q < 10 := by omega
      obtain ⟨g1, g2⟩ := hf q hq10
      have e10 : M (w + 10) q = kBo (th q) := by rw [a1 _ (by omega), t0.1 _ (by omega) (by omega)]; exact g1
      refine bl_Md_takeOut_126 (fun h => absurd h (nI_ge (b := 10) (by omega) (by omega))) (fun _ => ?_)
      refine bl_Md_takeOut_132 ?_
      have done : ∀ (M : kv_IM) (v : Int32), (∀ a, a ≠ w + 12 → M a = K a) → (∀ q', q' < q + 1 → th q' = true → ∀ i, i < z q' → M (w + 12) (1500 * q' + i) = nI (kNu (kU A x false) (g q' i))) → (∀ i, 1500 * (q + 1) ≤ i → M (w + 12) i = I (w + 12) i) → kv_V y_Md_takeOut d B QQ 0 0 n S M 199 [(0, .ref w), (1, .int (nI x)), (2, .int (nI (kBl p x))), (3, .int (nI q)), (4, .int v)] [] := by
        intro M v c1 c2 c3
        refine bl_Md_takeOut_199 ?_
        rw [nI_1]
        exact ih (q + 1) M (by omega) c1 c2 c3
      cases ht : th q
      · have hdone := fun v => done M v a1 (fun q' b1 b2 => by
          by_cases e : q' = q
          · rw [e, ht] at b2
            cases b2
          · exact a2 q' (by omega) b2) (fun i hi => a3 i (by omega))
        refine bl_Md_takeOut_135 s0 rfl s11 ⟨rfl, hq10, by omega⟩ (fun _ => hdone _) (fun _ => ?_)
        refine bl_Md_takeOut_146 s0 rfl s10 ⟨rfl, hq10, by omega⟩ (fun _ => hdone _) (fun h => absurd (by rw [e10, ht]; rfl) h)
      · have e11 := g2 ht
        obtain ⟨hz, hgq⟩ := hg q hq10 ht
        have inner : ∀ (j' i : Nat) (M : kv_IM), i + j' = z q → (∀ a, a ≠ w + 12 → M a = K a) → (∀ q', q' < q → th q' = true → ∀ i, i < z q' → M (w + 12) (1500 * q' + i) = nI (kNu (kU A x false) (g q' i))) → (∀ i', i' < i → M (w + 12) (1500 * q + i') = nI (kNu (kU A x false) (g q i'))) → (∀ i', 1500 * q + i ≤ i' → M (w + 12) i' = I (w + 12) i') → kv_V y_Md_takeOut d B QQ 0 0 n S M 135 [(0, .ref w), (1, .int (nI x)), (2, .int (nI (kBl p x))), (3, .int (nI q)), (4, .int (nI i))] [] := by
          intro j'
          induction j' with
          | zero =>
            intro i M hi c1 c2 c3 c4
            have eM : M (w + 11) q = nI (z q) := by rw [c1 _ (by omega), t0.1 _ (by omega) (by omega)]; exact e11
            refine bl_Md_takeOut_135 s0 rfl s11 ⟨rfl, hq10, by omega⟩ (fun _ => ?_) (fun h => absurd (by rw [eM]; exact nI_le (by omega) (by omega)) h)
            refine done M _ c1 (fun q' b1 b2 i' hi' => ?_) (fun i' hi' => c4 i' (by omega))
            by_cases e : q' = q
            · subst e
              exact c3 i' (by omega)
            · exact c2 q' (by omega) b2 i' hi'
          | succ j' ih' =>
            intro i M hi c1 c2 c3 c4
            have eM : M (w + 11) q = nI (z q) := by rw [c1 _ (by omega), t0.1 _ (by omega) (by omega)]; exact e11
            have eN : M (w + 10) q = 1 := by rw [c1 _ (by omega), t0.1 _ (by omega) (by omega), g1, ht]; rfl
            obtain ⟨h1, h2, h3⟩ := hgq i (by omega)
            have eR : M (w + 12) (1500 * q + i) = nI (kNu A (g q i)) := by rw [c4 _ (by omega)]; exact b5 q hq10 ht i (by omega)
            have hlt := kNu_le (A := A) (g q i)
            have eI : (1500 : Int32) * nI q + nI i = nI (1500 * q + i) := by
              show nI 1500 * nI q + nI i = _
              rw [pk_mul, nI_add]
            have fin : ∀ (r : Nat), r = kNu (kU A x false) (g q i) → kv_V y_Md_takeOut d B QQ 0 0 n S (kv_up M (w + 12) (1500 * q + i) (nI r)) 135 [(0, .ref w), (1, .int (nI x)), (2, .int (nI (kBl p x))), (3, .int (nI q)), (4, .int (nI (i + 1)))] [] := by
              intro r hr
              refine ih' (i + 1) _ (by omega) (fun a ha => by rw [up_ne ha]; exact c1 a ha) (fun q' y1 y2 i' y3 => ?_) (fun i' hi' => ?_) (fun i' hi' => ?_)
              · have hz' := (hg q' (by omega) y2).1
                rw [up_i (by omega)]
                exact c2 q' y1 y2 i' y3
              · by_cases e : i' = i
                · rw [e, up_at, hr]
                · rw [up_i (by omega)]
                  exact c3 i' (by omega)
              · rw [up_i (by omega)]
                exact c4 i' (by omega)
            refine bl_Md_takeOut_135 s0 rfl s11 ⟨rfl, hq10, by omega⟩ (fun h => absurd h (by rw [eM]; exact nI_ge (by omega) (by omega))) (fun _ => ?_)
            refine bl_Md_takeOut_146 s0 rfl s10 ⟨rfl, hq10, by omega⟩ (fun h => absurd h (by rw [eN]; decide)) (fun _ => ?_)
            refine bl_Md_takeOut_155 s0 rfl s12 (j4 := 1500 * q + i) ⟨eI, by omega, by omega⟩ (fun h => ?_) (fun h => ?_)
            · rw [eR, nI_leI (by omega) (by omega)] at h
              have hgx : g q i < x := by
                apply Nat.lt_of_le_of_ne _ h3
                apply Nat.le_of_not_lt
                intro r
                have := kNu_lt (k := g q i) hAx r
                omega
              refine bl_Md_takeOut_190 (bl_Md_takeOut_191 s12 (j2 := 1500 * q + i) ⟨eI, by omega, by omega⟩ ?_)
              rw [eR, nI_1, Int32.sub_zero]
              exact fin _ (kNu_rm1 (by omega)).symm
            · rw [eR, nI_leI (by omega) (by omega)] at h
              have hgx : x < g q i := by
                apply Nat.lt_of_le_of_ne _ (fun r => h3 r.symm)
                apply Nat.le_of_not_lt
                intro r
                have := kNu_le (A := A) (g q i)
                omega
              have n1 := kNu_rm2 hAx hgx
              refine bl_Md_takeOut_186 (bl_Md_takeOut_191 s12 (j2 := 1500 * q + i) ⟨eI, by omega, by omega⟩ ?_)
              rw [eR, nI_1, ← n1, nI_pred]
              exact fin _ rfl
        exact inner (z q) 0 M (by omega) a1 a2 (fun i' b => absurd b (by omega)) (fun i' hi' => a3 i' (by omega))
  have loop2 : ∀ (j m : Nat) (M : kv_IM), m + j = kNu A c - 1 → x ≤ m → kTo w I M → M w 16 = nI (kNu A c - 1) → M w 15 = nI (kQu A p c - kBl p x) → (∀ y, M (w + 6) y = if p x ≤ y ∧ y + kBl p x < kQu A p c then I (w + 6) (y + kBl p x) else I (w + 6) y) → (∀ y, M (w + 7) y = if x ≤ y ∧ y < m then I (w + 7) (y + 1) - nI (kBl p x) else I (w + 7) y) → (∀ y, M (w + 8) y = if x ≤ y ∧ y < m then I (w + 8) (y + 1) else I (w + 8) y) → (∀ y, M (w + 9) y = if x ≤ y ∧ y < m then I (w + 9) (y + 1) else I (w + 9) y) → M (w + 12) = I (w + 12) → kv_V y_Md_takeOut d B QQ 0 0 n S M 66 [(0, .ref w), (1, .int (nI x)), (2, .int (nI (kBl p x))), (3, .int (nI m))] [] := by
    intro j
    induction j with
    | zero =>
      intro m M hm hxm t0 t1 t2 t3 t4 t5 t6 t7
      have hm' : m = kNu A c - 1 := by omega
      refine bl_Md_takeOut_66 s0 (fun _ => ?_) (fun h => absurd (by rw [t1]; exact nI_le (by omega) (by omega)) h)
      refine bl_Md_takeOut_124 ?_
      rw [hm'] at t4 t5 t6
      exact loop3 M t0 t1 t2 t3 t4 t5 t6 t7 10 0 M (by omega) (fun _ _ => rfl) (fun q' b => absurd b (by omega)) (fun i _ => by rw [t7])
    | succ j ih =>
      intro m M hm hxm t0 t1 t2 t3 t4 t5 t6 t7
      refine bl_Md_takeOut_66 s0 (fun h => absurd h (by rw [t1]; exact nI_ge (by omega) (by omega))) (fun _ => ?_)
      refine bl_Md_takeOut_74 s0 rfl s7 (j4 := m + 1) ⟨nI_1 m, by omega, by omega⟩ (j5 := m) ⟨rfl, by omega, by omega⟩ rfl s8 (j8 := m + 1) ⟨nI_1 m, by omega, by omega⟩ (j9 := m) ⟨rfl, by omega, by omega⟩ rfl s9 (j12 := m + 1) ⟨nI_1 m, by omega, by omega⟩ (j13 := m) ⟨rfl, by omega, by omega⟩ ?_
      have f8 : kv_up M (w + 7) m (M (w + 7) (m + 1) - nI (kBl p x)) (w + 8) (m + 1) = I (w + 8) (m + 1) := by
        rw [up_ne (by omega), t5, if_neg (by omega)]
      have f7 : M (w + 7) (m + 1) = I (w + 7) (m + 1) := by
        rw [t4, if_neg (by omega)]
      rw [f8, f7]
      have f9 : kv_up (kv_up M (w + 7) m (I (w + 7) (m + 1) - nI (kBl p x))) (w + 8) m (I (w + 8) (m + 1)) (w + 9) (m + 1) = I (w + 9) (m + 1) := by
        rw [up_ne (by omega), up_ne (by omega), t6, if_neg (by omega)]
      rw [f9, nI_1]
      generalize hM1 : kv_up (kv_up (kv_up M (w + 7) m (I (w + 7) (m + 1) - nI (kBl p x))) (w + 8) m (I (w + 8) (m + 1))) (w + 9) m (I (w + 9) (m + 1)) = M1
      have q0 : ∀ a, a ≠ w + 7 → a ≠ w + 8 → a ≠ w + 9 → M1 a = M a := fun a a1 a2 a3 => by rw [← hM1, up_ne a3, up_ne a2, up_ne a1]
      refine ih (m + 1) M1 (by omega) (by omega) ⟨fun a a1 a2 => ?_, fun i a1 a2 => ?_⟩ ?_ ?_ (fun y => ?_) (fun y => ?_) (fun y => ?_) (fun y => ?_) ?_
      · rw [q0 a (by omega) (by omega) (by omega)]; exact t0.1 a a1 a2
      · rw [q0 w (by omega) (by omega) (by omega)]; exact t0.2 i a1 a2
      · rw [q0 w (by omega) (by omega) (by omega)]; exact t1
      · rw [q0 w (by omega) (by omega) (by omega)]; exact t2
      · rw [q0 _ (by omega) (by omega) (by omega)]; exact t3 y
      · rw [← hM1, up_ne (by omega), up_ne (by omega)]
        by_cases e : y = m
        · subst e
          rw [up_at, if_pos (by omega)]
        · rw [up_i e, t4]
          by_cases e2 : x ≤ y ∧ y < m
          · rw [if_pos e2, if_pos (by omega)]
          · rw [if_neg e2, if_neg (by omega)]
      · rw [← hM1, up_ne (by omega)]
        by_cases e : y = m
        · subst e
          rw [up_at, if_pos (by omega)]
        · rw [up_i e, up_ne (by omega), t5]
          by_cases e2 : x ≤ y ∧ y < m
          · rw [if_pos e2, if_pos (by omega)]
          · rw [if_neg e2, if_neg (by omega)]
      · rw [← hM1]
        by_cases e : y = m
        · subst e
          rw [up_at, if_pos (by omega)]
        · rw [up_i e, up_ne (by omega), up_ne (by omega), t6]
          by_cases e2 : x ≤ y ∧ y < m
          · rw [if_pos e2, if_pos (by omega)]
          · rw [if_neg e2, if_neg (by omega)]
      · rw [q0 _ (by omega) (by omega) (by omega)]; exact t7
  have loop1 : ∀ (j y0 : Nat) (M : kv_IM), y0 + j = kQu A p c - kBl p x → p x ≤ y0 → (∀ a, a ≠ w + 6 → M a = I a) → (∀ y, M (w + 6) y = if p x ≤ y ∧ y < y0 then I (w + 6) (y + kBl p x) else I (w + 6) y) → kv_V y_Md_takeOut d B QQ 0 0 n S M 14 [(0, .ref w), (1, .int (nI x)), (2, .int (nI (kBl p x))), (3, .int (nI y0))] [] := by
    intro j
    induction j with
    | zero =>
      intro y0 M hy hp a1 a2
      have e15 : M w 15 = nI (kQu A p c) := by rw [a1 w (by omega)]; exact b2
      have e16 : M w 16 = nI (kNu A c) := by rw [a1 w (by omega)]; exact b1
      refine bl_Md_takeOut_14 s0 (fun _ => ?_) (fun h => absurd (by rw [e15, nI_add]; exact nI_le (by omega) (by omega)) h)
      refine bl_Md_takeOut_44 s0 ?_
      have e16' : kv_up M w 15 (M w 15 - nI (kBl p x)) w 16 = nI (kNu A c) := by rw [up_i (by omega)]; exact e16
      rw [e16', e15, pk_sub (by omega), show nI (kNu A c) - 1 = nI (kNu A c - 1) from pk_sub (b := 1) (by omega)]
      have xo : ∀ a, a ≠ w → kv_up (kv_up M w 15 (nI (kQu A p c - kBl p x))) w 16 (nI (kNu A c - 1)) a = M a := fun a ha => by rw [up_ne ha, up_ne ha]
      refine loop2 _ x _ (Nat.add_sub_of_le (by omega)) (Nat.le_refl _) ⟨fun a c1 c2 => ?_, fun i c1 c2 => ?_⟩ up_at ?_ (fun y => ?_) (fun y => ?_) (fun y => ?_) (fun y => ?_) ?_
      · rw [xo a c1, a1 a (by omega)]
      · rw [up_i c2, up_i c1, a1 w (by omega)]
      · rw [up_i (by omega), up_at]
      · rw [xo _ (by omega), a2]
        by_cases e : p x ≤ y ∧ y < y0
        · rw [if_pos e, if_pos (by omega)]
        · rw [if_neg e, if_neg (by omega)]
      · rw [xo _ (by omega), a1 _ (by omega), if_neg (by omega)]
      · rw [xo _ (by omega), a1 _ (by omega), if_neg (by omega)]
      · rw [xo _ (by omega), a1 _ (by omega), if_neg (by omega)]
      · rw [xo _ (by omega), a1 _ (by omega)]
    | succ j ih =>
      intro y0 M hy hp a1 a2
      have e15 : M w 15 = nI (kQu A p c) := by rw [a1 w (by omega)]; exact b2
      refine bl_Md_takeOut_14 s0 (fun h => absurd h (by rw [e15, nI_add]; exact nI_ge (by omega) (by omega))) (fun _ => ?_)
      refine bl_Md_takeOut_24 s0 rfl s6 (j4 := y0 + kBl p x) ⟨nI_add _ _, by omega, by omega⟩ (j5 := y0) ⟨rfl, by omega, by omega⟩ ?_
      rw [nI_1, a2 (y0 + kBl p x), if_neg (by omega)]
      refine ih (y0 + 1) _ (by omega) (by omega) (fun a ha => by rw [up_ne ha]; exact a1 a ha) (fun y => ?_)
      by_cases e : y = y0
      · subst e
        rw [up_at, if_pos (by omega)]
      · rw [up_i e, a2]
        by_cases e2 : p x ≤ y ∧ y < y0
        · rw [if_pos e2, if_pos (by omega)]
        · rw [if_neg e2, if_neg (by omega)]
  exact loop1 _ (p x) I (Nat.add_sub_of_le (by omega)) (Nat.le_refl _) (fun _ _ => rfl) (fun y => by rw [if_neg (by omega)])
