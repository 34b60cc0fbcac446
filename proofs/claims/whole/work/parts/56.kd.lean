def kU1 (u : Nat → Nat) (z : Nat → Nat) (g : Nat → Nat → Nat) (q k : Nat) : Nat := u k - kCt (g q) (z q) k
def kA1 (u : Nat → Nat) (z : Nat → Nat) (g : Nat → Nat → Nat) (q : Nat) : Nat → Bool := fun k => decide (0 < kU1 u z g q k)
def sDrop (σ : kSt) (t : Int32) : Int32 × kSt := match σ with
  | (c, p, f, u, th, z, g) => if kSn th t then (nI (p c - kQu (kA1 u z g (tN t)) p c), kCmp (kA1 u z g (tN t)) (c, p, f, kU1 u z g (tN t), kU th (tN t) false, z, g)) else (-1, (c, p, f, u, th, z, g))
theorem kRf_sub {th : Nat → Bool} {z : Nat → Nat} {g : Nat → Nat → Nat} {q k : Nat} (hq : q < 10) (ht : th q = true) : kRf th z g k = kRf (kU th q false) z g k + kCt (g q) (z q) k := by
  have e : kRf th z g k = kSm (fun q' => (if kU th q false q' = true then kCt (g q') (z q') k else 0) + (if q = q' then kCt (g q') (z q') k else 0)) 10 := kSm_congr (fun q' hq' => by
    show (if th q' = true then kCt (g q') (z q') k else 0) = (if kU th q false q' = true then kCt (g q') (z q') k else 0) + (if q = q' then kCt (g q') (z q') k else 0)
    by_cases h : q = q'
    · subst h
      rw [kU_s, if_pos ht, if_neg (by simp), if_pos rfl]
      omega
    · rw [kU_n (fun r => h r.symm), if_neg h]
      omega)
  rw [e, kSm_one, if_pos hq]
  rfl
theorem kRf_add {th : Nat → Bool} {z : Nat → Nat} {g : Nat → Nat → Nat} {G : Nat → Nat} {q k N : Nat} (hq : q < 10) (ht : th q = false) : kRf (kU th q true) (kU z q N) (kU g q G) k = kRf th z g k + kCt G N k := by
  have e : kRf (kU th q true) (kU z q N) (kU g q G) k = kSm (fun q' => (if th q' = true then kCt (g q') (z q') k else 0) + (if q = q' then kCt G N k else 0)) 10 := kSm_congr (fun q' hq' => by
    show (if kU th q true q' = true then kCt (kU g q G q') (kU z q N q') k else 0) = (if th q' = true then kCt (g q') (z q') k else 0) + (if q = q' then kCt G N k else 0)
    by_cases h : q = q'
    · subst h
      rw [kU_s, kU_s, kU_s, if_pos rfl, ht, if_neg (by simp), if_pos rfl]
      omega
    · rw [kU_n (fun r => h r.symm), kU_n (fun r => h r.symm), kU_n (fun r => h r.symm), if_neg h]
      omega)
  rw [e, kSm_one (b := fun _ => kCt G N k), if_pos hq]
  rfl
theorem kOw_th {c : Nat} {p : Nat → Nat} {th : Nat → Bool} {z : Nat → Nat} {g : Nat → Nat → Nat} {q : Nat} (h : kOw c p th z g) : kOw c p (kU th q false) z g := by
  intro q' hq' ht
  by_cases e : q' = q
  · rw [e, kU_s] at ht
    cases ht
  · rw [kU_n e] at ht
    exact h q' hq' ht
theorem kDrp {c : Nat} {p f u : Nat → Nat} {th : Nat → Bool} {z : Nat → Nat} {g : Nat → Nat → Nat} {q : Nat} (hK : StK (c, p, f, u, th, z, g)) (hq : q < 10) (ht : th q = true) : (∀ k, k < c → kU1 u z g q k = kRf (kU th q false) z g k ∧ kCt (g q) (z q) k ≤ u k ∧ u k ≤ 15000) ∧ (∀ q', q' < 10 → kU th q false q' = true → ∀ i, i < z q' → kA1 u z g q (g q' i) = true) := by
  obtain ⟨k1, k2, k3, k4, k5, k6, k7⟩ := hK
  have h1 : ∀ k, k < c → kU1 u z g q k = kRf (kU th q false) z g k ∧ kCt (g q) (z q) k ≤ u k ∧ u k ≤ 15000 := by
    intro k hk
    have e := kRf_sub (z := z) (g := g) (k := k) hq ht
    have e2 := (k7 k hk).1
    have e3 := kRf_bd k6 k
    unfold kU1
    omega
  refine ⟨h1, fun q' hq' ht' i hi => ?_⟩
  have hg := (kOw_th (q := q) k6 q' hq' ht').2.1 i hi
  refine decide_eq_true ?_
  rw [(h1 _ hg).1]
  exact kRf_pos hq' ht' hi
theorem kT10 {th : Nat → Bool} {t : Int32} (h : kSn th t) : tN t < 10 := by
  obtain ⟨i1, i2, i3⟩ := tN_of h.1.1
  have := h.1.2
  omega
theorem StK_drop {σ : kSt} {t : Int32} (hK : StK σ) : StK (sDrop σ t).2 := by
  obtain ⟨c, p, f, u, th, z, g⟩ := σ
  unfold sDrop
  by_cases h : kSn th t
  · simp only [if_pos h]
    obtain ⟨d1, d2⟩ := kDrp hK (kT10 h) h.2
    obtain ⟨k1, k2, k3, k4, k5, k6, k7⟩ := hK
    exact StK_cmp k1 k2 k3 k4 k5 (kOw_th k6) (fun k hk ha => ⟨(d1 k hk).1, of_decide_eq_true ha⟩) d2
  · simp only [if_neg h]
    exact hK
abbrev kK4 : Type := Nat × (Nat → Nat) × (Nat → Nat) × (Nat → Nat)
def kKs (tf tp : Nat → Nat) (k : Nat) : kK4 → Option kK4 := fun s => match s with
  | (c, p, f, g) => if kFd f p c tf tp k = c then (if c = 300 ∨ 6000 < p c + kBl tp k then none else some (c + 1, kU p (c + 1) (p c + kBl tp k), fun x => if x < p c then f x else tf (tp k + (x - p c)), kU g k c)) else some (c, p, f, kU g k (kFd f p c tf tp k))
def kKp (tf tp : Nat → Nat) (c : Nat) (p f : Nat → Nat) : Nat → Option kK4
  | 0 => some (c, p, f, fun _ => 0)
  | k + 1 => (kKp tf tp c p f k).bind (kKs tf tp k)
theorem kKp_none {tf tp : Nat → Nat} {c : Nat} {p f : Nat → Nat} {k : Nat} (h : kKp tf tp c p f k = none) : ∀ {m : Nat}, k ≤ m → kKp tf tp c p f m = none
  | 0, e => by rw [show k = 0 by omega] at h; exact h
  | m + 1, e => by
    by_cases q : k = m + 1
    · rw [q] at h; exact h
    · rw [kKp, kKp_none h (m := m) (by omega)]
      rfl
def kKI (tf tp : Nat → Nat) (c0 : Nat) (p0 f0 : Nat → Nat) (k : Nat) : kK4 → Prop := fun s => match s with
  | (c, p, f, g) => c0 ≤ c ∧ c ≤ 300 ∧ (∀ m, m < c → p m < p (m + 1)) ∧ p c ≤ 6000 ∧ (∀ m m', m < c → m' < c → kLike f p m f p m' → m = m') ∧ (∀ m, m ≤ c0 → p m = p0 m) ∧ (∀ x, x < p0 c0 → f x = f0 x) ∧ (∀ i, i < k → g i < c ∧ kBl p (g i) = kBl tp i) ∧ (∀ j, c0 ≤ j → j < c → ∃ i, i < k ∧ g i = j)
theorem kLike_cg {f p F P h r : Nat → Nat} {c j m : Nat} (hinc : ∀ k, k < c → p k < p (k + 1)) (hP : ∀ k, k ≤ c → P k = p k) (hF : ∀ x, x < p c → F x = f x) (hj : j < c) (hl : kLike F P j h r m) : kLike f p j h r m := by
  have m1 := hinc j hj
  have m2 := kMon hinc (i := j + 1) (k := c) (by omega) (Nat.le_refl _)
  obtain ⟨l1, l2⟩ := hl
  rw [hP j (by omega), hP (j + 1) (by omega)] at l1
  rw [hP j (by omega), hP (j + 1) (by omega)] at l2
  refine ⟨l1, fun i hi => ?_⟩
  rw [← hF _ (by omega)]
  exact l2 i hi
theorem kKI_step {tf tp : Nat → Nat} {c0 : Nat} {p0 f0 : Nat → Nat} {k : Nat} {s s' : kK4} (hp : tp k < tp (k + 1)) (hI : kKI tf tp c0 p0 f0 k s) (hs : kKs tf tp k s = some s') (hinc0 : ∀ m, m < c0 → p0 m < p0 (m + 1)) : kKI tf tp c0 p0 f0 (k + 1) s' := by
  obtain ⟨c, p, f, g⟩ := s
  obtain ⟨h1, h2, h3, h4, h5, h6, h7, h8, h9⟩ := hI
  have hle := kFd_le (f := f) (p := p) (c := c) (tf := tf) (tp := tp) (k := k)
  have eb : kBl tp k = tp (k + 1) - tp k := rfl
  unfold kKs at hs
  by_cases hc : kFd f p c tf tp k = c
  · simp only [if_pos hc] at hs
    by_cases hf : c = 300 ∨ 6000 < p c + kBl tp k
    · simp only [if_pos hf] at hs
      cases hs
    · simp only [if_neg hf] at hs
      have hs := Option.some.inj hs
      subst hs
      have hno := kFd_c hc
      have pc1 : kU p (c + 1) (p c + kBl tp k) (c + 1) = p c + kBl tp k := kU_s
      have pcm : ∀ m, m ≤ c → kU p (c + 1) (p c + kBl tp k) m = p m := fun m hm => kU_n (by omega)
      have hFm : ∀ x, x < p c → (fun x => if x < p c then f x else tf (tp k + (x - p c))) x = f x := fun x hx => if_pos hx
      have hnew : kLike (fun x => if x < p c then f x else tf (tp k + (x - p c))) (kU p (c + 1) (p c + kBl tp k)) c tf tp k := by
        refine ⟨?_, fun i hi => ?_⟩
        · rw [pc1, pcm c (Nat.le_refl _)]
          omega
        · rw [pcm c (Nat.le_refl _)]
          show (if p c + i < p c then f (p c + i) else tf (tp k + (p c + i - p c))) = _
          rw [if_neg (by omega)]
          congr 1
          omega
      refine ⟨by omega, by omega, fun m hm => ?_, ?_, fun m m' hm hm' hl => ?_, fun m hm => ?_, fun x hx => ?_, fun i hi => ?_, fun j hj1 hj2 => ?_⟩
      · by_cases e : m = c
        · rw [e, pc1, pcm c (Nat.le_refl _)]
          omega
        · rw [pcm m (by omega), pcm (m + 1) (by omega)]
          exact h3 m (by omega)
      · rw [pc1]
        omega
      · by_cases e : m = c
        · by_cases e' : m' = c
          · omega
          · exfalso
            rw [e] at hl
            exact hno m' (by omega) (kLike_cg h3 pcm hFm (by omega) (kLike_trans (kLike_symm hl) hnew))
        · by_cases e' : m' = c
          · exfalso
            rw [e'] at hl
            exact hno m (by omega) (kLike_cg h3 pcm hFm (by omega) (kLike_trans hl hnew))
          · exact h5 m m' (by omega) (by omega) (kLike_cg h3 pcm hFm (by omega) (kLike_symm (kLike_cg h3 pcm hFm (by omega) (kLike_symm hl))))
      · rw [pcm m (by omega)]
        exact h6 m hm
      · have hpm : p0 c0 ≤ p c := by
          rw [← h6 c0 (Nat.le_refl _)]
          exact kMon h3 h1 (Nat.le_refl _)
        rw [hFm x (by omega)]
        exact h7 x hx
      · by_cases e : i = k
        · rw [e, kU_s]
          refine ⟨by omega, ?_⟩
          show kU p (c + 1) (p c + kBl tp k) (c + 1) - kU p (c + 1) (p c + kBl tp k) c = _
          rw [pc1, pcm c (Nat.le_refl _)]
          omega
        · obtain ⟨x1, x2⟩ := h8 i (by omega)
          rw [kU_n e]
          refine ⟨by omega, ?_⟩
          show kU p (c + 1) (p c + kBl tp k) (g i + 1) - kU p (c + 1) (p c + kBl tp k) (g i) = _
          rw [pcm _ (by omega), pcm _ (by omega)]
          exact x2
      · by_cases e : j = c
        · exact ⟨k, by omega, by rw [kU_s, e]⟩
        · obtain ⟨i, x1, x2⟩ := h9 j hj1 (by omega)
          exact ⟨i, by omega, by rw [kU_n (by omega)]; exact x2⟩
  · simp only [if_neg hc] at hs
    have hs := Option.some.inj hs
    subst hs
    have hl := kFd_lt (f := f) (p := p) (c := c) (tf := tf) (tp := tp) (k := k) (by omega)
    refine ⟨h1, h2, h3, h4, h5, h6, h7, fun i hi => ?_, fun j hj1 hj2 => ?_⟩
    · by_cases e : i = k
      · rw [e, kU_s]
        exact ⟨by omega, hl.1⟩
      · rw [kU_n e]
        exact h8 i (by omega)
    · obtain ⟨i, x1, x2⟩ := h9 j hj1 hj2
      exact ⟨i, by omega, by rw [kU_n (by omega)]; exact x2⟩
theorem kKI_all {tf tp : Nat → Nat} {c : Nat} {p f : Nat → Nat} {N : Nat} (k1 : c ≤ 300) (k3 : ∀ k, k < c → p k < p (k + 1)) (k4 : p c ≤ 6000) (k5 : ∀ k k', k < c → k' < c → kLike f p k f p k' → k = k') (hp : ∀ k, k < N → tp k < tp (k + 1)) : ∀ {k : Nat} {s : kK4}, k ≤ N → kKp tf tp c p f k = some s → kKI tf tp c p f k s
  | 0, s, _, h => by
    have h := Option.some.inj h
    subst h
    exact ⟨Nat.le_refl _, k1, k3, k4, k5, fun _ _ => rfl, fun _ _ => rfl, fun i hi => absurd hi (by omega), fun j h1 h2 => absurd h2 (by omega)⟩
  | k + 1, s, hk, h => by
    rw [kKp] at h
    cases e : kKp tf tp c p f k with
    | none =>
      rw [e] at h
      cases h
    | some s0 =>
      rw [e] at h
      exact kKI_step (hp k (by omega)) (kKI_all k1 k3 k4 k5 hp (by omega) e) h k3
def kFree (th : Nat → Bool) : Nat := kLs (fun q => !th q) 10 0
def sKeep (σ : kSt) (tf tp : Nat → Nat) (N : Nat) : Int32 × kSt := match σ with
  | (c, p, f, u, th, z, g) => if kFree th = 10 then (-2, (c, p, f, u, th, z, g)) else match kKp tf tp c p f N with
    | none => (-2, (c, p, f, u, th, z, g))
    | some (c', p', f', g') => (nI (kFree th), (c', p', f', fun k => (if k < c then u k else 0) + kCt g' N k, kU th (kFree th) true, kU z (kFree th) N, kU g (kFree th) g'))
theorem kFree_sp {th : Nat → Bool} : kFree th ≤ 10 ∧ (∀ q, q < kFree th → th q = true) ∧ (kFree th < 10 → th (kFree th) = false) := by
  obtain ⟨a1, a2, a3, a4⟩ := kLs_spec (P := fun q => !th q) 10 0
  refine ⟨by unfold kFree; omega, fun q hq => ?_, fun h => ?_⟩
  · have := a3 q (by omega) hq
    simpa using this
  · have := a4 (by unfold kFree at h; omega)
    simp at this
    exact this
theorem kRf_zero {c : Nat} {p : Nat → Nat} {th : Nat → Bool} {z : Nat → Nat} {g : Nat → Nat → Nat} {k : Nat} (h : kOw c p th z g) (hk : c ≤ k) : kRf th z g k = 0 := by
  have := kSm_bd (h := fun q => if th q = true then kCt (g q) (z q) k else 0) (b := 0) (m := 10) (fun q hq => by
    show (if th q = true then kCt (g q) (z q) k else 0) ≤ 0
    split
    · rename_i ht
      have := kSm_bd (h := fun i => if g q i = k then 1 else 0) (b := 0) (m := z q) (fun i hi => by
        show (if g q i = k then 1 else 0) ≤ 0
        have := (h q hq ht).2.1 i hi
        rw [if_neg (by omega)]
        omega)
      unfold kCt
      omega
    · omega)
  unfold kRf
  omega
theorem kSl_tp {p g tp : Nat → Nat} : ∀ {N : Nat}, (∀ k, k < N → tp k < tp (k + 1)) → (∀ i, i < N → kBl p (g i) = kBl tp i) → kSl p g N + tp 0 = tp N
  | 0, _, _ => by show 0 + tp 0 = tp 0; omega
  | N + 1, h, h2 => by
    have e := kSl_tp (p := p) (g := g) (tp := tp) (N := N) (fun k hk => h k (by omega)) (fun i hi => h2 i (by omega))
    have e2 := h N (by omega)
    have e3 := h2 N (by omega)
    have e4 : kBl tp N = tp (N + 1) - tp N := rfl
    rw [kSl_s]
    omega
theorem kSl_pc {c : Nat} {p P g : Nat → Nat} {m : Nat} (hP : ∀ k, k ≤ c → P k = p k) (h : ∀ i, i < m → g i < c) : kSl P g m = kSl p g m := kSm_congr (fun i hi => by
  have := h i hi
  show P (g i + 1) - P (g i) = p (g i + 1) - p (g i)
  rw [hP _ (by omega), hP _ (by omega)])
theorem StK_keep {σ : kSt} {tf tp : Nat → Nat} {N : Nat} (hK : StK σ) (hN : N ≤ 1500) (hp : ∀ k, k < N → tp k < tp (k + 1)) (hl : tp N ≤ 1500) : StK (sKeep σ tf tp N).2 := by
  obtain ⟨c, p, f, u, th, z, g⟩ := σ
  obtain ⟨k1, k2, k3, k4, k5, k6, k7⟩ := id hK
  obtain ⟨f1, f2, f3⟩ := kFree_sp (th := th)
  unfold sKeep
  by_cases h : kFree th = 10
  · simp only [if_pos h]
    exact hK
  · simp only [if_neg h]
    cases e : kKp tf tp c p f N with
    | none => exact hK
    | some s =>
      obtain ⟨c', p', f', g'⟩ := s
      obtain ⟨h1, h2, h3, h4, h5, h6, h7, h8, h9⟩ := kKI_all k1 k3 k4 k5 hp (Nat.le_refl _) e
      have hq : kFree th < 10 := by omega
      have hf := f3 hq
      refine ⟨h2, by rw [h6 0 (by omega)]; exact k2, h3, h4, h5, fun q' hq' ht => ?_, fun k hk => ?_⟩
      · by_cases eq : q' = kFree th
        · subst eq
          rw [kU_s, kU_s]
          have := kSl_tp hp (fun i hi => (h8 i hi).2)
          exact ⟨hN, fun i hi => (h8 i hi).1, by omega⟩
        · rw [kU_n eq] at ht
          rw [kU_n eq, kU_n eq]
          obtain ⟨o1, o2, o3⟩ := k6 q' hq' ht
          refine ⟨o1, fun i hi => by have := o2 i hi; omega, ?_⟩
          rw [kSl_pc h6 o2]
          exact o3
      · rw [kRf_add hq hf]
        show (if k < c then u k else 0) + kCt g' N k = _ ∧ 0 < (if k < c then u k else 0) + kCt g' N k
        by_cases hkc : k < c
        · rw [if_pos hkc]
          obtain ⟨e1, e2⟩ := k7 k hkc
          omega
        · rw [if_neg hkc, kRf_zero k6 (by omega)]
          obtain ⟨i, x1, x2⟩ := h9 k (by omega) hk
          have := kCt_pos (g := g') x1
          rw [x2] at this
          omega
