def kNu (A : Nat → Bool) (k : Nat) : Nat := kSm (fun j => if A j = true then 1 else 0) k
def kQu (A : Nat → Bool) (p : Nat → Nat) (k : Nat) : Nat := kSm (fun j => if A j = true then kBl p j else 0) k
theorem kNu_t {A : Nat → Bool} {k : Nat} (h : A k = true) : kNu A (k + 1) = kNu A k + 1 := by
  show kNu A k + (if A k = true then 1 else 0) = _
  rw [if_pos h]
theorem kNu_f {A : Nat → Bool} {k : Nat} (h : A k = false) : kNu A (k + 1) = kNu A k := by
  show kNu A k + (if A k = true then 1 else 0) = _
  rw [h]
  rfl
theorem kQu_t {A : Nat → Bool} {p : Nat → Nat} {k : Nat} (h : A k = true) : kQu A p (k + 1) = kQu A p k + kBl p k := by
  show kQu A p k + (if A k = true then kBl p k else 0) = _
  rw [if_pos h]
theorem kQu_f {A : Nat → Bool} {p : Nat → Nat} {k : Nat} (h : A k = false) : kQu A p (k + 1) = kQu A p k := by
  show kQu A p k + (if A k = true then kBl p k else 0) = _
  rw [h]
  rfl
theorem kNu_mono {A : Nat → Bool} {k k' : Nat} (h : k ≤ k') : kNu A k ≤ kNu A k' := kSm_le h
theorem kQu_mono {A : Nat → Bool} {p : Nat → Nat} {k k' : Nat} (h : k ≤ k') : kQu A p k ≤ kQu A p k' := kSm_le h
theorem kNu_le {A : Nat → Bool} : ∀ k, kNu A k ≤ k
  | 0 => Nat.le_refl _
  | k + 1 => by
    have := kNu_le (A := A) k
    cases h : A k
    · rw [kNu_f h]; omega
    · rw [kNu_t h]; omega
theorem kNu_lt {A : Nat → Bool} {j k : Nat} (h : A j = true) (hk : j < k) : kNu A j < kNu A k := by
  have h1 := kNu_t h
  have h2 := kNu_mono (A := A) (k := j + 1) (k' := k) (by omega)
  omega
theorem kNu_inj {A : Nat → Bool} {i j : Nat} (hi : A i = true) (hj : A j = true) (e : kNu A i = kNu A j) : i = j := by
  by_cases h : i < j
  · have := kNu_lt hi h; omega
  · by_cases h2 : j < i
    · have := kNu_lt hj h2; omega
    · omega
theorem kQu_le {A : Nat → Bool} {p : Nat → Nat} (h0 : p 0 = 0) {c : Nat} (hinc : ∀ k, k < c → p k < p (k + 1)) : ∀ k, k ≤ c → kQu A p k ≤ p k
  | 0, _ => Nat.zero_le _
  | k + 1, hk => by
    have h1 := kQu_le (A := A) h0 hinc k (by omega)
    have h2 := hinc k (by omega)
    have e : kBl p k = p (k + 1) - p k := rfl
    cases h : A k
    · rw [kQu_f h]; omega
    · rw [kQu_t h]; omega
theorem kQu_same {A : Nat → Bool} {p : Nat → Nat} {k : Nat} : ∀ {k' : Nat}, k ≤ k' → kNu A k = kNu A k' → kQu A p k = kQu A p k'
  | 0, h, _ => by rw [show k = 0 by omega]
  | k' + 1, h, e => by
    by_cases hk : k = k' + 1
    · rw [hk]
    · have h1 := kNu_mono (A := A) (k := k) (k' := k') (by omega)
      cases ha : A k'
      · rw [kNu_f ha] at e
        rw [kQu_f ha]
        exact kQu_same (k' := k') (by omega) e
      · rw [kNu_t ha] at e
        omega
theorem kNu_stop {A : Nat → Bool} {k : Nat} : ∀ {k' : Nat}, k ≤ k' → (∀ i, k ≤ i → i < k' → A i = true → kNu A i ≠ kNu A k) → kNu A k' = kNu A k
  | 0, h, _ => by rw [show k = 0 by omega]
  | k' + 1, h, e => by
    by_cases hk : k = k' + 1
    · rw [hk]
    · have h1 := kNu_stop (A := A) (k := k) (k' := k') (by omega) (fun i h1 h2 => e i h1 (by omega))
      cases ha : A k'
      · rw [kNu_f ha]; exact h1
      · exact absurd h1 (e k' (by omega) (by omega) ha)
def kEx (A : Nat → Bool) (c m : Nat) : Nat := kLs (fun k => A k && decide (kNu A k = m)) c 0
theorem kEx_1 {A : Nat → Bool} {c j : Nat} (hj : j < c) (ha : A j = true) : kEx A c (kNu A j) = j := by
  refine kLs_eq hj ?_ (fun i hi => ?_)
  · simp [ha]
  · cases h : A i
    · rfl
    · have := kNu_lt h hi
      simp
      omega
theorem kEx_le {A : Nat → Bool} {c m : Nat} : kEx A c m ≤ c := by
  have := (kLs_spec (P := fun k => A k && decide (kNu A k = m)) c 0).2.1
  unfold kEx
  omega
theorem kEx_2 {A : Nat → Bool} {p : Nat → Nat} {c k : Nat} (hk : k ≤ c) : kQu A p (kEx A c (kNu A k)) = kQu A p k := by
  obtain ⟨a1, a2, a3, a4⟩ := kLs_spec (P := fun i => A i && decide (kNu A i = kNu A k)) c 0
  have hle := kEx_le (A := A) (c := c) (m := kNu A k)
  change ∀ i, 0 ≤ i → i < kEx A c (kNu A k) → _ at a3
  change kEx A c (kNu A k) < 0 + c → (A (kEx A c (kNu A k)) && decide (kNu A (kEx A c (kNu A k)) = kNu A k)) = true at a4
  generalize kEx A c (kNu A k) = e at *
  by_cases h : e < c
  · have h4 := a4 (by omega)
    simp at h4
    by_cases h5 : e < k
    · have := kNu_lt h4.1 h5
      omega
    · exact (kQu_same (by omega) h4.2.symm).symm
  · have he : e = c := by omega
    subst he
    refine (kQu_same hk (kNu_stop hk (fun i b1 b2 b3 b4 => ?_)).symm).symm
    have := a3 i (by omega) b2
    simp [b3, b4] at this
theorem kNu_ex {A : Nat → Bool} {m : Nat} : ∀ {c : Nat}, m < kNu A c → ∃ i, i < c ∧ A i = true ∧ kNu A i = m
  | 0, h => absurd h (Nat.not_lt_zero _)
  | c + 1, h => by
    cases ha : A c
    · rw [kNu_f ha] at h
      obtain ⟨i, h1, h2, h3⟩ := kNu_ex h
      exact ⟨i, by omega, h2, h3⟩
    · rw [kNu_t ha] at h
      by_cases e : kNu A c = m
      · exact ⟨c, by omega, ha, e⟩
      · obtain ⟨i, h1, h2, h3⟩ := kNu_ex (A := A) (m := m) (c := c) (by omega)
        exact ⟨i, by omega, h2, h3⟩
def kPn (A : Nat → Bool) (c : Nat) (p : Nat → Nat) : Nat → Nat := fun m => kQu A p (kEx A c m)
def kFn (A : Nat → Bool) (c : Nat) (p f : Nat → Nat) : Nat → Nat := fun x => f (p (kLs (fun k => decide (x < kQu A p (k + 1))) c 0) + (x - kQu A p (kLs (fun k => decide (x < kQu A p (k + 1))) c 0)))
def kUn (A : Nat → Bool) (c : Nat) (u : Nat → Nat) : Nat → Nat := fun m => u (kEx A c m)
def kGn (A : Nat → Bool) (g : Nat → Nat → Nat) : Nat → Nat → Nat := fun q i => kNu A (g q i)
theorem kPn_at {A : Nat → Bool} {c k : Nat} {p : Nat → Nat} (hk : k ≤ c) : kPn A c p (kNu A k) = kQu A p k := kEx_2 hk
theorem kPn_s {A : Nat → Bool} {c k : Nat} {p : Nat → Nat} (hk : k < c) (ha : A k = true) : kPn A c p (kNu A k + 1) = kQu A p k + kBl p k := by
  rw [← kNu_t ha, kPn_at (by omega), kQu_t ha]
theorem kBl_n {A : Nat → Bool} {c k : Nat} {p : Nat → Nat} (hk : k < c) (ha : A k = true) : kBl (kPn A c p) (kNu A k) = kBl p k := by
  show kPn A c p (kNu A k + 1) - kPn A c p (kNu A k) = _
  rw [kPn_s hk ha, kPn_at (by omega)]
  omega
theorem kFn_at {A : Nat → Bool} {c j i : Nat} {p f : Nat → Nat} (hj : j < c) (ha : A j = true) (hi : i < kBl p j) : kFn A c p f (kQu A p j + i) = f (p j + i) := by
  have e : kLs (fun k => decide (kQu A p j + i < kQu A p (k + 1))) c 0 = j := by
    refine kLs_eq hj (decide_eq_true ?_) (fun i' hi' => decide_eq_false ?_)
    · rw [kQu_t ha]
      omega
    · have := kQu_mono (A := A) (p := p) (k := i' + 1) (k' := j) (by omega)
      omega
  unfold kFn
  rw [e]
  congr 2
  omega
theorem kUn_at {A : Nat → Bool} {c j : Nat} {u : Nat → Nat} (hj : j < c) (ha : A j = true) : kUn A c u (kNu A j) = u j := by
  unfold kUn
  rw [kEx_1 hj ha]
theorem kLike_n {A : Nat → Bool} {c j : Nat} {p f : Nat → Nat} (hj : j < c) (ha : A j = true) : kLike (kFn A c p f) (kPn A c p) (kNu A j) f p j := by
  have hb := kBl_n (p := p) hj ha
  refine ⟨hb, fun i hi => ?_⟩
  have hb2 : kPn A c p (kNu A j + 1) - kPn A c p (kNu A j) = kBl p j := hb
  rw [hb2] at hi
  rw [kPn_at (by omega)]
  exact kFn_at hj ha hi
theorem kQu_byte {A : Nat → Bool} {p : Nat → Nat} {x : Nat} : ∀ {c : Nat}, x < kQu A p c → ∃ j i, j < c ∧ A j = true ∧ i < kBl p j ∧ x = kQu A p j + i
  | 0, h => absurd h (Nat.not_lt_zero _)
  | c + 1, h => by
    by_cases hx : x < kQu A p c
    · obtain ⟨j, i, h1, h2, h3, h4⟩ := kQu_byte hx
      exact ⟨j, i, by omega, h2, h3, h4⟩
    · cases ha : A c
      · rw [kQu_f ha] at h
        exact absurd h hx
      · rw [kQu_t ha] at h
        exact ⟨c, x - kQu A p c, by omega, ha, by omega, by omega⟩
theorem kCt_pos {g : Nat → Nat} {i : Nat} : ∀ {m : Nat}, i < m → 0 < kCt g m (g i)
  | 0, h => absurd h (Nat.not_lt_zero _)
  | m + 1, h => by
    rw [kCt_s]
    by_cases e : i = m
    · rw [e, if_pos rfl]
      omega
    · have := kCt_pos (g := g) (i := i) (m := m) (by omega)
      omega
theorem kSm_pos {h : Nat → Nat} {i : Nat} : ∀ {m : Nat}, i < m → 0 < h i → 0 < kSm h m
  | 0, e, _ => absurd e (Nat.not_lt_zero _)
  | m + 1, e, e2 => by
    rw [kSm]
    by_cases q : i = m
    · rw [q] at e2
      omega
    · have := kSm_pos (h := h) (i := i) (m := m) (by omega) e2
      omega
theorem kRf_pos {th : Nat → Bool} {z : Nat → Nat} {g : Nat → Nat → Nat} {q i : Nat} (hq : q < 10) (ht : th q = true) (hi : i < z q) : 0 < kRf th z g (g q i) := by
  refine kSm_pos hq ?_
  show 0 < (if th q = true then kCt (g q) (z q) (g q i) else 0)
  rw [if_pos ht]
  exact kCt_pos hi
theorem kCt_n {A : Nat → Bool} {g : Nat → Nat} {j : Nat} (hj : A j = true) : ∀ {m : Nat}, (∀ i, i < m → A (g i) = true) → kCt (fun i => kNu A (g i)) m (kNu A j) = kCt g m j
  | 0, _ => rfl
  | m + 1, h => by
    rw [kCt_s, kCt_s, kCt_n hj (fun i hi => h i (by omega))]
    by_cases e : g m = j
    · rw [if_pos e, if_pos (by rw [e])]
    · rw [if_neg e, if_neg (fun q => e (kNu_inj (h m (by omega)) hj q))]
theorem kRf_n {A : Nat → Bool} {th : Nat → Bool} {z : Nat → Nat} {g : Nat → Nat → Nat} {j : Nat} (hj : A j = true) (h : ∀ q, q < 10 → th q = true → ∀ i, i < z q → A (g q i) = true) : kRf th z (kGn A g) (kNu A j) = kRf th z g j := by
  refine kSm_congr (fun q hq => ?_)
  show (if th q = true then kCt (kGn A g q) (z q) (kNu A j) else 0) = (if th q = true then kCt (g q) (z q) j else 0)
  by_cases ht : th q = true
  · rw [if_pos ht, if_pos ht]
    exact kCt_n hj (h q hq ht)
  · rw [if_neg ht, if_neg ht]
theorem kSl_n {A : Nat → Bool} {c : Nat} {p g : Nat → Nat} {m : Nat} (h : ∀ i, i < m → g i < c ∧ A (g i) = true) : kSl (kPn A c p) (fun i => kNu A (g i)) m = kSl p g m := kSm_congr (fun i hi => kBl_n (h i hi).1 (h i hi).2)
def kCmp (A : Nat → Bool) : kSt → kSt := fun σ => match σ with
  | (c, p, f, u, th, z, g) => (kNu A c, kPn A c p, kFn A c p f, kUn A c u, th, z, kGn A g)
theorem kOw_n {A : Nat → Bool} {c : Nat} {p : Nat → Nat} {th : Nat → Bool} {z : Nat → Nat} {g : Nat → Nat → Nat} (h : kOw c p th z g) (hA : ∀ q, q < 10 → th q = true → ∀ i, i < z q → A (g q i) = true) : kOw (kNu A c) (kPn A c p) th z (kGn A g) := by
  intro q hq ht
  obtain ⟨h1, h2, h3⟩ := h q hq ht
  refine ⟨h1, fun i hi => kNu_lt (hA q hq ht i hi) (h2 i hi), ?_⟩
  have := kSl_n (p := p) (m := z q) (fun i hi => ⟨h2 i hi, hA q hq ht i hi⟩)
  exact (show kSl (kPn A c p) (kGn A g q) (z q) = kSl p (g q) (z q) from this) ▸ h3
theorem StK_cmp {A : Nat → Bool} {c : Nat} {p f u : Nat → Nat} {th : Nat → Bool} {z : Nat → Nat} {g : Nat → Nat → Nat} (k1 : c ≤ 300) (k2 : p 0 = 0) (k3 : ∀ k, k < c → p k < p (k + 1)) (k4 : p c ≤ 6000) (k5 : ∀ k k', k < c → k' < c → kLike f p k f p k' → k = k') (k6 : kOw c p th z g) (k7 : ∀ k, k < c → A k = true → u k = kRf th z g k ∧ 0 < u k) (hA : ∀ q, q < 10 → th q = true → ∀ i, i < z q → A (g q i) = true) : StK (kCmp A (c, p, f, u, th, z, g)) := by
  have hcl := kNu_le (A := A) c
  refine ⟨by omega, ?_, fun m hm => ?_, ?_, fun m m' hm hm' hl => ?_, kOw_n k6 hA, fun m hm => ?_⟩
  · show kPn A c p (kNu A 0) = 0
    rw [kPn_at (by omega)]
    rfl
  · obtain ⟨j, h1, h2, rfl⟩ := kNu_ex hm
    rw [kPn_s h1 h2, kPn_at (by omega)]
    have := k3 j h1
    have e : kBl p j = p (j + 1) - p j := rfl
    omega
  · rw [kPn_at (Nat.le_refl _)]
    have := kQu_le (A := A) k2 k3 c (Nat.le_refl _)
    omega
  · obtain ⟨j, h1, h2, rfl⟩ := kNu_ex hm
    obtain ⟨j', h1', h2', rfl⟩ := kNu_ex hm'
    rw [k5 j j' h1 h1' (kLike_trans (kLike_symm (kLike_n h1 h2)) (kLike_trans hl (kLike_n h1' h2')))]
  · obtain ⟨j, h1, h2, rfl⟩ := kNu_ex hm
    rw [kUn_at h1 h2, kRf_n h2 hA]
    exact k7 j h1 h2
