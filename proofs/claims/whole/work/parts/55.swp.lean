theorem z_rep {a b : Int32} {m : Nat} : a + nI m * b + b = a + nI (m + 1) * b := by
  rw [← nI_1, Int32.add_mul, Int32.one_mul, Int32.add_assoc]
theorem c_Sto_countPlaces {d : Nat} {B : kv_B} {n : Nat} {S : kv_SM} {I : kv_IM} {s q zz : Nat} {gg : Nat → Nat} (b : Int32) (hS : StoS S s) (hq : q < 10) (hz : I (s + 10 + 2 * q) 1 = nI zz) (hz2 : zz ≤ 1500) (hg : ∀ i, i < zz → I (s + 10 + 2 * q + 1) i = nI (gg i) ∧ gg i < 300) :
    kv_P y_Sto_countPlaces d B [.ref s, .ref (s + 10 + 2 * q), .int b] n S I (fun v J => v = none ∧ (∀ a, a ≠ s + 7 → J a = I a) ∧ ∀ k, J (s + 7) k = I (s + 7) k + nI (kCt gg zz k) * b) := by
  obtain ⟨s0, s1, s2, s3, s4, s5⟩ := id hS
  obtain ⟨q0, q1⟩ := s5 q hq
  refine kv_P.of (by decide +kernel) rfl (Nat.le_of_ble_eq_true rfl) ?_
  refine bl_Sto_countPlaces_0 ?_
  have loop : ∀ (j i : Nat) (J : kv_IM), i + j = zz → (∀ a, a ≠ s + 7 → J a = I a) → (∀ k, J (s + 7) k = I (s + 7) k + nI (kCt gg i k) * b) → kv_V y_Sto_countPlaces d B (kv_PQ n S (fun v J => v = none ∧ (∀ a, a ≠ s + 7 → J a = I a) ∧ ∀ k, J (s + 7) k = I (s + 7) k + nI (kCt gg zz k) * b)) 0 0 n S J 2 [(0, .ref s), (1, .ref (s + 10 + 2 * q)), (2, .int b), (3, .int (nI i))] [] := by
    intro j
    induction j with
    | zero =>
      intro i J hi hF hk
      have e : J (s + 10 + 2 * q) 1 = nI zz := by rw [hF _ (by omega)]; exact hz
      refine bl_Sto_countPlaces_2 q0 (fun _ => ?_) (fun h => absurd (by rw [e]; exact nI_le (by omega) (by omega)) h)
      refine bl_Sto_countPlaces_31 ⟨rfl, rfl, rfl, hF, ?_⟩
      rw [← show i = zz by omega]
      exact hk
    | succ j ih =>
      intro i J hi hF hk
      have e : J (s + 10 + 2 * q) 1 = nI zz := by rw [hF _ (by omega)]; exact hz
      obtain ⟨g1, g2⟩ := hg i (by omega)
      have e2 : J (s + 10 + 2 * q + 1) i = nI (gg i) := by rw [hF _ (by omega)]; exact g1
      refine bl_Sto_countPlaces_2 q0 (fun h => absurd h (by rw [e]; exact nI_ge (by omega) (by omega))) (fun _ => ?_)
      refine bl_Sto_countPlaces_10 s0 rfl q0 rfl q1 ⟨rfl, by omega, by omega⟩ s2 (j8 := gg i) ⟨e2, by omega, by omega⟩ ?_
      rw [nI_1]
      refine ih (i + 1) _ (by omega) (fun a ha => ?_) (fun k => ?_)
      · rw [up_ne ha]; exact hF a ha
      · by_cases hh : k = gg i
        · rw [hh, up_at, hk, z_rep, kCt_s, if_pos rfl]
        · rw [up_i hh, hk, kCt_s, if_neg (fun q => hh q.symm)]
          rfl
  refine loop zz 0 I (by omega) (fun _ _ => rfl) (fun k => ?_)
  show _ = _ + (0 : Int32) * b
  rw [Int32.zero_mul, Int32.add_zero]
theorem c_Sto_renumber {d : Nat} {B : kv_B} {n : Nat} {S : kv_SM} {I : kv_IM} {s : Nat} {th : Nat → Bool} {z : Nat → Nat} {g : Nat → Nat → Nat} (hS : StoS S s) (hT : ∀ q, q < 10 → I (s + 10 + 2 * q) 3 = kBo (th q) ∧ (th q = true → I (s + 10 + 2 * q) 1 = nI (z q) ∧ z q ≤ 1500 ∧ ∀ i, i < z q → I (s + 10 + 2 * q + 1) i = nI (g q i) ∧ g q i < 300)) :
    kv_P y_Sto_renumber d B [.ref s] n S I (fun v J => v = none ∧ (∀ a, (∀ q, q < 10 → a ≠ s + 10 + 2 * q + 1) → J a = I a) ∧ ∀ q, q < 10 → th q = true → ∀ i, i < z q → J (s + 10 + 2 * q + 1) i = I (s + 8) (g q i)) := by
  obtain ⟨s0, s1, s2, s3, s4, s5⟩ := id hS
  refine kv_P.of (by decide +kernel) rfl (Nat.le_of_ble_eq_true rfl) ?_
  refine bl_Sto_renumber_0 ?_
  generalize hQQ : kv_PQ n S (fun v J => v = none ∧ (∀ a, (∀ q, q < 10 → a ≠ s + 10 + 2 * q + 1) → J a = I a) ∧ ∀ q, q < 10 → th q = true → ∀ i, i < z q → J (s + 10 + 2 * q + 1) i = I (s + 8) (g q i)) = QQ
  have loop : ∀ (j q : Nat) (J : kv_IM), q + j = 10 → (∀ a, (∀ q, q < 10 → a ≠ s + 10 + 2 * q + 1) → J a = I a) → (∀ q', q ≤ q' → q' < 10 → J (s + 10 + 2 * q' + 1) = I (s + 10 + 2 * q' + 1)) → (∀ q', q' < q → th q' = true → ∀ i, i < z q' → J (s + 10 + 2 * q' + 1) i = I (s + 8) (g q' i)) → kv_V y_Sto_renumber d B QQ 0 0 n S J 2 [(0, .ref s), (1, .int (nI q))] [] := by
    intro j
    induction j with
    | zero =>
      intro q J hq hF h1 h2
      refine bl_Sto_renumber_2 (fun _ => ?_) (fun h => absurd (nI_le (a := 10) (by omega) (by omega)) h)
      rw [← hQQ]
      exact bl_Sto_renumber_61 ⟨rfl, rfl, rfl, hF, fun q' hq' => h2 q' (by omega)⟩
    | succ j ih =>
      intro q J hq hF h1 h2
      have hq10 : q < 10 := by omega
      obtain ⟨x0, x1⟩ := s5 q hq10
      obtain ⟨t1, t2⟩ := hT q hq10
      refine bl_Sto_renumber_2 (fun h => absurd h (nI_ge (b := 10) (by omega) (by omega))) (fun _ => ?_)
      refine bl_Sto_renumber_8 s0 rfl s4 ⟨rfl, hq10, by omega⟩ (snpA_k hq10) ?_
      have done : ∀ (J : kv_IM) (i : Int32), (∀ a, (∀ q, q < 10 → a ≠ s + 10 + 2 * q + 1) → J a = I a) → (∀ q', q < q' → q' < 10 → J (s + 10 + 2 * q' + 1) = I (s + 10 + 2 * q' + 1)) → (∀ q', q' < q + 1 → th q' = true → ∀ i, i < z q' → J (s + 10 + 2 * q' + 1) i = I (s + 8) (g q' i)) → kv_V y_Sto_renumber d B QQ 0 0 n S J 55 [(0, .ref s), (1, .int (nI q)), (2, .ref (s + 10 + 2 * q)), (3, .int i)] [] := by
        intro J i a1 a2 a3
        refine bl_Sto_renumber_55 ?_
        rw [nI_1]
        exact ih (q + 1) J (by omega) a1 (fun q' b1 b2 => a2 q' (by omega) b2) a3
      cases ht : th q
      · have e3 : J (s + 10 + 2 * q) 3 = 0 := by rw [hF _ (fun q' hq' => by omega), t1, ht]; rfl
        refine bl_Sto_renumber_17 x0 (fun _ => ?_) (fun h => absurd e3 h)
        refine done J _ hF (fun q' b1 b2 => h1 q' (by omega) b2) (fun q' b1 b2 => ?_)
        by_cases hh : q' = q
        · rw [hh, ht] at b2
          cases b2
        · exact h2 q' (by omega) b2
      · obtain ⟨u1, u2, u3⟩ := t2 ht
        have inner : ∀ (j' i : Nat) (J : kv_IM), i + j' = z q → (∀ a, (∀ q, q < 10 → a ≠ s + 10 + 2 * q + 1) → J a = I a) → (∀ q', q < q' → q' < 10 → J (s + 10 + 2 * q' + 1) = I (s + 10 + 2 * q' + 1)) → (∀ q', q' < q → th q' = true → ∀ i, i < z q' → J (s + 10 + 2 * q' + 1) i = I (s + 8) (g q' i)) → (∀ i', i' < i → J (s + 10 + 2 * q + 1) i' = I (s + 8) (g q i')) → (∀ i', i ≤ i' → J (s + 10 + 2 * q + 1) i' = I (s + 10 + 2 * q + 1) i') → kv_V y_Sto_renumber d B QQ 0 0 n S J 17 [(0, .ref s), (1, .int (nI q)), (2, .ref (s + 10 + 2 * q)), (3, .int (nI i))] [] := by
          intro j'
          induction j' with
          | zero =>
            intro i J hi a1 a2 a3 a4 a5
            have e3 : J (s + 10 + 2 * q) 3 = 1 := by rw [a1 _ (fun q' hq' => by omega), t1, ht]; rfl
            have e1 : J (s + 10 + 2 * q) 1 = nI (z q) := by rw [a1 _ (fun q' hq' => by omega)]; exact u1
            refine bl_Sto_renumber_17 x0 (fun h => absurd h (by rw [e3]; decide)) (fun _ => ?_)
            refine bl_Sto_renumber_24 x0 (fun _ => ?_) (fun h => absurd (by rw [e1]; exact nI_le (by omega) (by omega)) h)
            refine done J _ a1 a2 (fun q' b1 b2 => ?_)
            by_cases hh : q' = q
            · subst hh
              rw [← show i = z q' by omega]
              exact a4
            · exact a3 q' (by omega) b2
          | succ j' ih' =>
            intro i J hi a1 a2 a3 a4 a5
            have e3 : J (s + 10 + 2 * q) 3 = 1 := by rw [a1 _ (fun q' hq' => by omega), t1, ht]; rfl
            have e1 : J (s + 10 + 2 * q) 1 = nI (z q) := by rw [a1 _ (fun q' hq' => by omega)]; exact u1
            obtain ⟨v1, v2⟩ := u3 i (by omega)
            have e2 : J (s + 10 + 2 * q + 1) i = nI (g q i) := by rw [a5 i (Nat.le_refl _)]; exact v1
            have e8 : J (s + 8) = I (s + 8) := a1 _ (fun q' hq' => by omega)
            refine bl_Sto_renumber_17 x0 (fun h => absurd h (by rw [e3]; decide)) (fun _ => ?_)
            refine bl_Sto_renumber_24 x0 (fun h => absurd h (by rw [e1]; exact nI_ge (by omega) (by omega))) (fun _ => ?_)
            refine bl_Sto_renumber_32 x0 rfl s0 rfl x1 (j6 := i) ⟨rfl, by omega, by omega⟩ s3 (j8 := g q i) ⟨e2, by omega, by omega⟩ ?_
            rw [nI_1, e8]
            refine ih' (i + 1) _ (by omega) (fun a ha => ?_) (fun q' b1 b2 => ?_) (fun q' b1 b2 i' b3 => ?_) (fun i' b => ?_) (fun i' b => ?_)
            · rw [up_ne (ha q hq10)]; exact a1 a ha
            · rw [up_ne (by omega)]; exact a2 q' b1 b2
            · rw [up_ne (by omega)]; exact a3 q' b1 b2 i' b3
            · by_cases hh : i' = i
              · rw [hh, up_at]
              · rw [up_i hh]; exact a4 i' (by omega)
            · rw [up_i (by omega)]; exact a5 i' (by omega)
        exact inner (z q) 0 J (by omega) hF (fun q' b1 b2 => h1 q' (by omega) b2) h2 (fun i' b => absurd b (by omega)) (fun i' _ => by rw [h1 q (Nat.le_refl _) hq10])
  exact loop 10 0 I (by omega) (fun _ _ => rfl) (fun _ _ _ => rfl) (fun q' b => absurd b (by omega))
theorem kQu_full {A : Nat → Bool} {p : Nat → Nat} (h0 : p 0 = 0) {c : Nat} (hinc : ∀ k, k < c → p k < p (k + 1)) : ∀ k, k ≤ c → kNu A k = k → kQu A p k = p k
  | 0, _, _ => h0.symm
  | k + 1, hk, e => by
    have h1 := kNu_le (A := A) k
    have h2 := hinc k (by omega)
    have eb : kBl p k = p (k + 1) - p k := rfl
    cases h : A k
    · rw [kNu_f h] at e
      omega
    · rw [kNu_t h] at e
      rw [kQu_t h, kQu_full h0 hinc k (by omega) (by omega)]
      omega
def kSwp (I J : kv_IM) (s c k : Nat) (p f u : Nat → Nat) (A : Nat → Bool) : Prop :=
  (∀ a, (a < s + 1 ∨ s + 8 < a) → J a = I a) ∧ kRow J (s + 1) 6000 300 (kFn A c p f) (kPn A c p) (kNu A k) ∧
  (∃ L, kIx J (s + 1) (kFn A c p f) (kPn A c p) (kNu A k) L ∧ ∀ j, j < kNu A k → j ∈ L (kKey (kFn A c p f) (kPn A c p) j)) ∧
  (∀ m, k ≤ m → m ≤ c → J (s + 1 + 2) m = nI (p m)) ∧ (∀ x, p k ≤ x → x < p c → J (s + 1 + 1) x = nI (f x)) ∧
  (∀ m, k ≤ m → m < c → J (s + 1 + 3) m = kFnv f (p m) (p (m + 1) - p m)) ∧ (∀ m, k ≤ m → m < c → J (s + 7) m = nI (u m)) ∧
  ∀ j, j < k → A j = true → J (s + 7) (kNu A j) = nI (u j) ∧ J (s + 8) j = nI (kNu A j)
theorem c_Sto_sweep {d : Nat} {B : kv_B} {n : Nat} {S : kv_SM} {I : kv_IM} (hd : 2 ≤ d) {s c : Nat} {p f u : Nat → Nat} {th : Nat → Bool} {z : Nat → Nat} {g : Nat → Nat → Nat} {A : Nat → Bool} (hS : StoS S s) (hR : kRow I (s + 1) 6000 300 f p c) (hsum : ∀ k, k < c → I (s + 1 + 3) k = kFnv f (p k) (p (k + 1) - p k)) (k2 : p 0 = 0) (hU : ∀ k, k < c → I (s + 7) k = nI (u k) ∧ u k < 2 ^ 31) (hA : ∀ k, k < c → A k = decide (0 < u k)) (hQ : ∀ q, q < 10 → StQ I s p th z g q) (hO : kOw c p th z g) (hG : ∀ q, q < 10 → th q = true → ∀ i, i < z q → A (g q i) = true) :
    kv_P y_Sto_sweep d B [.ref s] n S I (fun v J => v = some (.int (nI (p c - kQu A p c))) ∧ (∀ a, (a < s + 1 ∨ s + 29 < a) → J a = I a) ∧ StC J s (kCmp A (c, p, f, u, th, z, g))) := by
  obtain ⟨s0, s1, s2, s3, s4, s5⟩ := id hS
  obtain ⟨r0, r1, r2, r3, r4, r5⟩ := id hR
  refine kv_P.of (by decide +kernel) rfl (Nat.le_of_ble_eq_true rfl) ?_
  refine bp_Sto_sweep_0 (dc := 0) s0 rfl s1.1 (c_Row_end s1 (by omega) r0 r1) (by omega) (fun v J hv => ?_)
  obtain ⟨rfl, rfl⟩ := hv
  rw [r2 c (Nat.le_refl _)]
  refine bp_Sto_sweep_7 (dc := 1) s0 rfl s1.1 (c_Row_unchain (by omega) s1) (by omega) (fun v J hv => ?_)
  obtain ⟨rfl, rfl⟩ := hv
  rw [r0]
  refine bl_Sto_sweep_31 ?_
  have loop : ∀ (j k : Nat) (J : kv_IM), k + j = c → kSwp I J s c k p f u A → kv_V y_Sto_sweep d B (kv_PQ n S (fun v J => v = some (.int (nI (p c - kQu A p c))) ∧ (∀ a, (a < s + 1 ∨ s + 29 < a) → J a = I a) ∧ StC J s (kCmp A (c, p, f, u, th, z, g)))) 0 0 n S J 33 [(0, .ref s), (1, .int (nI (p c))), (2, .int (nI c)), (3, .int (nI k))] [] := by
    intro j
    induction j with
    | zero =>
      intro k J hk hJ
      have hkc : k = c := by omega
      subst hkc
      obtain ⟨b1, b2, b3, b4, b5, b6, b7, b8⟩ := hJ
      refine bl_Sto_sweep_33 (fun _ => ?_) (fun h => absurd (nI_le (Nat.le_refl _) (by omega)) h)
      have hT : ∀ q, q < 10 → J (s + 10 + 2 * q) 3 = kBo (th q) ∧ (th q = true → J (s + 10 + 2 * q) 1 = nI (z q) ∧ z q ≤ 1500 ∧ ∀ i, i < z q → J (s + 10 + 2 * q + 1) i = nI (g q i) ∧ g q i < 300) := by
        intro q hq
        obtain ⟨x1, x2⟩ := hQ q hq
        rw [b1 (s + 10 + 2 * q) (by omega), b1 (s + 10 + 2 * q + 1) (by omega)]
        refine ⟨x1, fun ht => ?_⟩
        obtain ⟨x3, x4, x5⟩ := x2 ht
        obtain ⟨o1, o2, o3⟩ := hO q hq ht
        exact ⟨x3, o1, fun i hi => ⟨x5 i hi, by have := o2 i hi; omega⟩⟩
      refine bp_Sto_sweep_96 (dc := 0) s0 (c_Sto_renumber hS hT) (by omega) (fun v K hv => ?_)
      obtain ⟨rfl, hF, hN⟩ := hv
      have eK : ∀ a, (a < s + 10 ∨ s + 29 < a) → K a = J a := fun a ha => hF a (fun q hq => by omega)
      have hRK : kRow K (s + 1) 6000 300 (kFn A k p f) (kPn A k p) (kNu A k) := kRow_of b2 (eK _ (by omega)) (eK _ (by omega)) (eK _ (by omega))
      have hnl := kNu_le (A := A) k
      have hql := kQu_le (A := A) k2 r3 k (Nat.le_refl _)
      refine bp_Sto_sweep_100 (dc := 0) s0 rfl s1.1 (c_Row_end s1 (by omega) hRK.1 (by omega)) (by omega) (fun v M hv => ?_)
      obtain ⟨rfl, rfl⟩ := hv
      have ee : K (s + 1 + 2) (kNu A k) = nI (kQu A p k) := by
        rw [hRK.2.2.1 _ (Nat.le_refl _), kPn_at (Nat.le_refl _)]
      rw [ee]
      refine bl_Sto_sweep_108 ⟨rfl, rfl, ?_, fun a ha => ?_, ⟨hRK, ?_⟩, fun m hm => ?_, fun q hq => ?_⟩
      · rw [pk_sub hql]
      · rw [eK a (by omega), b1 a (by omega)]
      · obtain ⟨L, x1, x2⟩ := b3
        exact ⟨L, kIx_of x1 (fun j _ => by rw [eK _ (by omega)]) (eK _ (by omega)) (eK _ (by omega)), x2⟩
      · obtain ⟨j, h1, h2, rfl⟩ := kNu_ex hm
        rw [eK _ (by omega), kUn_at h1 h2]
        exact (b8 j h1 h2).1
      · have e0 : K (s + 10 + 2 * q) = I (s + 10 + 2 * q) := by
          rw [hF _ (fun q' hq' => by omega), b1 _ (by omega)]
        obtain ⟨x1, x2⟩ := hQ q hq
        refine ⟨by rw [e0]; exact x1, fun ht => ?_⟩
        obtain ⟨x3, x4, x5⟩ := x2 ht
        obtain ⟨o1, o2, o3⟩ := hO q hq ht
        refine ⟨by rw [e0]; exact x3, ?_, fun i hi => ?_⟩
        · rw [e0, x4]
          have := kSl_n (p := p) (m := z q) (fun i hi => ⟨o2 i hi, hG q hq ht i hi⟩)
          exact congrArg nI (show kSl (kPn A k p) (kGn A g q) (z q) = kSl p (g q) (z q) from this).symm
        · rw [hN q hq ht i hi]
          exact (b8 _ (o2 i hi) (hG q hq ht i hi)).2
    | succ j ih =>
      intro k J hk hJ
      have hkc : k < c := by omega
      obtain ⟨b1, b2, b3, b4, b5, b6, b7, b8⟩ := id hJ
      have e7 := b7 k (Nat.le_refl _) hkc
      have hu := (hU k hkc).2
      have hnl := kNu_le (A := A) k
      have hql := kQu_le (A := A) k2 r3 k (by omega)
      have m1 := r3 k hkc
      have m2 := kMon r3 (i := k + 1) (k := c) (by omega) (Nat.le_refl _)
      have eb : kBl p k = p (k + 1) - p k := rfl
      refine bl_Sto_sweep_33 (fun h => absurd h (nI_ge (by omega) (by omega))) (fun _ => ?_)
      refine bl_Sto_sweep_38 s0 rfl s2 (j4 := k) ⟨rfl, by omega, by omega⟩ (fun h => ?_) (fun h => ?_)
      · rw [e7] at h
        have hu0 : u k = 0 := by
          have := (nI_leI hu (by omega)).mp (show nI (u k) ≤ nI 0 from h)
          omega
        have ha : A k = false := by rw [hA k hkc, hu0]; rfl
        refine bl_Sto_sweep_90 ?_
        rw [nI_1]
        refine ih (k + 1) J (by omega) ⟨b1, ?_, ?_, fun m h1 h2 => b4 m (by omega) h2, fun x h1 h2 => b5 x (by omega) h2, fun m h1 h2 => b6 m (by omega) h2, fun m h1 h2 => b7 m (by omega) h2, fun j' h1 h2 => ?_⟩
        · rw [kNu_f ha]; exact b2
        · rw [kNu_f ha]; exact b3
        · by_cases hh : j' = k
          · rw [hh, ha] at h2
            cases h2
          · exact b8 j' (by omega) h2
      · rw [e7] at h
        have hu0 : 0 < u k := by
          apply Nat.pos_of_ne_zero
          intro q
          rw [q] at h
          exact h (by decide)
        have ha : A k = true := by rw [hA k hkc]; exact decide_eq_true hu0
        have e5 : J (s + 1) 5 = nI (kNu A k) := b2.1
        have e5' : kv_up J (s + 8) k (J (s + 1) 5) (s + 1) 5 = nI (kNu A k) := by rw [up_ne (by omega)]; exact e5
        generalize hJ1 : kv_up (kv_up J (s + 8) k (J (s + 1) 5)) (s + 7) (kNu A k) (kv_up J (s + 8) k (J (s + 1) 5) (s + 7) k) = J1
        have c1 : ∀ a, a ≠ s + 7 → a ≠ s + 8 → J1 a = J a := by
          intro a h1 h2
          rw [← hJ1, up_ne h1, up_ne h2]
        have c7 : ∀ i, i ≠ kNu A k → J1 (s + 7) i = J (s + 7) i := by
          intro i h1
          rw [← hJ1, up_i h1, up_ne (by omega)]
        have c7' : J1 (s + 7) (kNu A k) = nI (u k) := by
          rw [← hJ1, up_at, up_ne (by omega)]
          exact e7
        have c8 : ∀ i, i ≠ k → J1 (s + 8) i = J (s + 8) i := by
          intro i h1
          rw [← hJ1, up_ne (by omega), up_i h1]
        have c8' : J1 (s + 8) k = nI (kNu A k) := by
          rw [← hJ1, up_ne (by omega), up_at]
          exact e5
        obtain ⟨L, x1, x2⟩ := b3
        have hR1 : kRow J1 (s + 1) 6000 300 (kFn A c p f) (kPn A c p) (kNu A k) := kRow_of b2 (c1 _ (by omega) (by omega)) (c1 _ (by omega) (by omega)) (c1 _ (by omega) (by omega))
        have hX1 : kIx J1 (s + 1) (kFn A c p f) (kPn A c p) (kNu A k) L := kIx_of x1 (fun j _ => by rw [c1 _ (by omega) (by omega)]) (c1 _ (by omega) (by omega)) (c1 _ (by omega) (by omega))
        have pE : kPn A c p (kNu A k) = kQu A p k := kPn_at (by omega)
        have pS : kPn A c p (kNu A k + 1) = kQu A p k + kBl p k := kPn_s hkc ha
        have t1 : J1 (s + 1 + 2) k = nI (p k) := by rw [c1 _ (by omega) (by omega)]; exact b4 k (Nat.le_refl _) (by omega)
        have t2 : J1 (s + 1 + 2) (k + 1) = nI (p (k + 1)) := by rw [c1 _ (by omega) (by omega)]; exact b4 (k + 1) (by omega) (by omega)
        have hsm : J1 (s + 1 + 3) k = kFnv (kFn A c p f) (kPn A c p (kNu A k)) (kPn A c p (kNu A k + 1) - kPn A c p (kNu A k)) := by
          rw [c1 _ (by omega) (by omega), kLike_fnv (kLike_n hkc ha)]
          exact b6 k (Nat.le_refl _) hkc
        have hsrc : ∀ i, i < kPn A c p (kNu A k + 1) - kPn A c p (kNu A k) → J1 (s + 1 + 1) (p k + i) = nI (kFn A c p f (kPn A c p (kNu A k) + i)) ∧ kFn A c p f (kPn A c p (kNu A k) + i) < 256 := by
          intro i hi
          rw [pE, pS] at hi
          rw [pE, kFn_at hkc ha (by omega), c1 _ (by omega) (by omega), b5 _ (by omega) (by omega)]
          exact ⟨rfl, (r5 _ (by omega)).2⟩
        obtain ⟨y1, L', y2, y3⟩ := kAp_row (k := k) (src := p k) (r' := s + 1) hR1 hX1 x2 (by omega) (by omega) (by omega) hsrc hsm
        refine bp_Sto_sweep_47 (dc := 1) s0 rfl rfl s1.1 s3 (j6 := k) ⟨rfl, by omega, by omega⟩ rfl s2 (j9 := k) ⟨rfl, by omega, by omega⟩ (j10 := kNu A k) ⟨e5', by omega, by omega⟩ (by
          rw [hJ1]
          exact c_Row_append (src := p k) (E := kPn A c p (kNu A k)) (N := kPn A c p (kNu A k + 1) - kPn A c p (kNu A k)) (by omega) s1 s1 (by omega) (by omega) (by omega) (by omega) (by omega) (by omega) (Or.inl rfl) hR1.1 (by omega) (hR1.2.2.1 _ (Nat.le_refl _)) (by omega) t1 (by rw [t2]; congr 1; omega) (by omega) (by omega)) (by omega) (fun v M hv => ?_)
        obtain ⟨rfl, rfl⟩ := hv
        refine bl_Sto_sweep_90 ?_
        rw [nI_1]
        generalize hNN : kPn A c p (kNu A k + 1) - kPn A c p (kNu A k) = N at *
        generalize hEE : kPn A c p (kNu A k) = E at *
        refine ih (k + 1) _ (by omega) ⟨fun a ha' => ?_, ?_, ?_, fun m h1 h2 => ?_, fun x h1 h2 => ?_, fun m h1 h2 => ?_, fun m h1 h2 => ?_, fun j' h1 h2 => ?_⟩
        · rw [kAp_fr (by omega), c1 a (by omega) (by omega)]
          exact b1 a ha'
        · rw [kNu_t ha]; exact y1
        · rw [kNu_t ha]; exact ⟨L', y2, y3⟩
        · rw [kAp_2]
          by_cases hh : m = kNu A k + 1
          · have hf := kQu_full (A := A) k2 r3 k (by omega) (by omega)
            rw [if_pos hh]
            have : m = k + 1 := by omega
            rw [this]
            congr 1
            omega
          · rw [if_neg hh, c1 _ (by omega) (by omega)]
            exact b4 m (by omega) h2
        · rw [kAp_1, cp_out (Or.inr (by omega)), c1 _ (by omega) (by omega)]
          exact b5 x (by omega) h2
        · rw [kAp_3, if_neg (by omega), c1 _ (by omega) (by omega)]
          exact b6 m (by omega) h2
        · rw [kAp_fr (by omega), c7 m (by omega)]
          exact b7 m (by omega) h2
        · rw [kAp_fr (by omega), kAp_fr (by omega)]
          by_cases hh : j' = k
          · rw [hh]
            exact ⟨c7', c8'⟩
          · have hlt := kNu_lt (k := k) h2 (by omega)
            rw [c7 _ (by omega), c8 _ hh]
            exact b8 j' (by omega) h2
  refine loop c 0 _ (by omega) ⟨fun a ha => ?_, ⟨?_, by show 0 ≤ 300; omega, fun i hi => ?_, fun i hi => absurd hi (Nat.not_lt_zero _), ?_, fun i hi => ?_⟩, ⟨fun _ => [], ⟨fun j hj => absurd hj (Nat.not_lt_zero _), fun key hkey => ⟨kFi_at hkey, trivial, fun k hk => by cases hk⟩⟩, fun j hj => absurd hj (Nat.not_lt_zero _)⟩, fun m h1 h2 => ?_, fun x h1 h2 => ?_, fun m h1 h2 => ?_, fun m h1 h2 => ?_, fun j hj => absurd hj (Nat.not_lt_zero _)⟩
  · rw [kFi_ne (by omega), up_ne (by omega)]
  · rw [kFi_ne (by omega), up_at]
    rfl
  · have hi0 : i = 0 := by
      have : i ≤ 0 := hi
      omega
    subst hi0
    rw [kFi_ne (by omega), up_ne (by omega), r2 0 (by omega), k2]
    have : kPn A c p (kNu A 0) = kQu A p 0 := kPn_at (by omega)
    exact congrArg nI (show 0 = kPn A c p 0 from this.symm)
  · have : kPn A c p (kNu A 0) = kQu A p 0 := kPn_at (by omega)
    rw [this]
    show 0 ≤ 6000
    omega
  · have : kPn A c p (kNu A 0) = kQu A p 0 := kPn_at (by omega)
    rw [this] at hi
    exact absurd hi (Nat.not_lt_zero _)
  · rw [kFi_ne (by omega), up_ne (by omega)]
    exact r2 m h2
  · rw [kFi_ne (by omega), up_ne (by omega)]
    have t := (r5 x h2).1
    rw [Nat.zero_add] at t
    exact t
  · rw [kFi_ne (by omega), up_ne (by omega)]
    exact hsum m h2
  · rw [kFi_ne (by omega), up_ne (by omega)]
    exact (hU m h2).1
