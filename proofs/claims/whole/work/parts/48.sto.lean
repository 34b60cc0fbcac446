abbrev kSt : Type := Nat × (Nat → Nat) × (Nat → Nat) × (Nat → Nat) × (Nat → Bool) × (Nat → Nat) × (Nat → Nat → Nat)
abbrev kBl (p : Nat → Nat) (k : Nat) : Nat := p (k + 1) - p k
def kSl (p : Nat → Nat) (g : Nat → Nat) (m : Nat) : Nat := kSm (fun i => kBl p (g i)) m
def kBo (b : Bool) : Int32 := if b = true then 1 else 0
theorem kBo_t : kBo true = 1 := rfl
theorem kBo_f : kBo false = 0 := rfl
theorem kBo_e0 {b : Bool} : kBo b = 0 ↔ b = false := by
  cases b
  · simp [kBo]
  · simp [kBo]
def StQ (I : kv_IM) (s : Nat) (p : Nat → Nat) (th : Nat → Bool) (z : Nat → Nat) (g : Nat → Nat → Nat) (q : Nat) : Prop := I (s + 10 + 2 * q) 3 = kBo (th q) ∧ (th q = true → I (s + 10 + 2 * q) 1 = nI (z q) ∧ I (s + 10 + 2 * q) 2 = nI (kSl p (g q) (z q)) ∧ ∀ i, i < z q → I (s + 10 + 2 * q + 1) i = nI (g q i))
def StR (I : kv_IM) (s : Nat) (c : Nat) (p f : Nat → Nat) : Prop := kRow I (s + 1) 6000 300 f p c ∧ ∃ L, kIx I (s + 1) f p c L ∧ ∀ j, j < c → j ∈ L (kKey f p j)
def StC (I : kv_IM) (s : Nat) : kSt → Prop := fun σ => match σ with
  | (c, p, f, u, th, z, g) => StR I s c p f ∧ (∀ k, k < c → I (s + 7) k = nI (u k)) ∧ ∀ q, q < 10 → StQ I s p th z g q
def kCt (g : Nat → Nat) (m k : Nat) : Nat := kSm (fun i => if g i = k then 1 else 0) m
def kRf (th : Nat → Bool) (z : Nat → Nat) (g : Nat → Nat → Nat) (k : Nat) : Nat := kSm (fun q => if th q = true then kCt (g q) (z q) k else 0) 10
def kOw (c : Nat) (p : Nat → Nat) (th : Nat → Bool) (z : Nat → Nat) (g : Nat → Nat → Nat) : Prop := ∀ q, q < 10 → th q = true → z q ≤ 1500 ∧ (∀ i, i < z q → g q i < c) ∧ kSl p (g q) (z q) ≤ 1500
def StK : kSt → Prop := fun σ => match σ with
  | (c, p, f, u, th, z, g) => c ≤ 300 ∧ p 0 = 0 ∧ (∀ k, k < c → p k < p (k + 1)) ∧ p c ≤ 6000 ∧ (∀ k k', k < c → k' < c → kLike f p k f p k' → k = k') ∧ kOw c p th z g ∧ ∀ k, k < c → u k = kRf th z g k ∧ 0 < u k
theorem kSm_le {h : Nat → Nat} {a : Nat} : ∀ {m : Nat}, a ≤ m → kSm h a ≤ kSm h m
  | 0, e => by rw [show a = 0 by omega]; exact Nat.le_refl _
  | m + 1, e => by
    by_cases q : a = m + 1
    · rw [q]; exact Nat.le_refl _
    · have := kSm_le (h := h) (a := a) (m := m) (by omega)
      rw [kSm]
      omega
theorem kSm_bd {h : Nat → Nat} {b : Nat} : ∀ {m : Nat}, (∀ i, i < m → h i ≤ b) → kSm h m ≤ m * b
  | 0, _ => Nat.zero_le _
  | m + 1, e => by
    have h1 := kSm_bd (h := h) (b := b) (m := m) (fun i hi => e i (by omega))
    have h2 := e m (by omega)
    rw [kSm, Nat.succ_mul]
    omega
theorem kSm_congr {h h' : Nat → Nat} : ∀ {m : Nat}, (∀ i, i < m → h i = h' i) → kSm h m = kSm h' m
  | 0, _ => rfl
  | m + 1, e => by rw [kSm, kSm, kSm_congr (m := m) (fun i hi => e i (by omega)), e m (by omega)]
theorem kCt_bd {g : Nat → Nat} {m k : Nat} : kCt g m k ≤ m := by
  have := kSm_bd (h := fun i => if g i = k then 1 else 0) (b := 1) (m := m) (fun i _ => by show (if g i = k then 1 else 0) ≤ 1; split <;> omega)
  unfold kCt
  omega
theorem kRf_bd {c : Nat} {p : Nat → Nat} {th : Nat → Bool} {z : Nat → Nat} {g : Nat → Nat → Nat} (h : kOw c p th z g) (k : Nat) : kRf th z g k ≤ 15000 := by
  have := kSm_bd (h := fun q => if th q = true then kCt (g q) (z q) k else 0) (b := 1500) (m := 10) (fun q hq => by
    show (if th q = true then kCt (g q) (z q) k else 0) ≤ 1500
    split
    · rename_i ht
      have h1 := (h q hq ht).1
      have h2 := kCt_bd (g := g q) (m := z q) (k := k)
      omega
    · omega)
  unfold kRf
  omega
theorem StQ_of {I J : kv_IM} {s : Nat} {p : Nat → Nat} {th : Nat → Bool} {z : Nat → Nat} {g : Nat → Nat → Nat} {q : Nat} (h : StQ I s p th z g q) (e0 : J (s + 10 + 2 * q) = I (s + 10 + 2 * q)) (e1 : J (s + 10 + 2 * q + 1) = I (s + 10 + 2 * q + 1)) : StQ J s p th z g q := by
  unfold StQ
  rw [e0, e1]
  exact h
theorem StR_of {I J : kv_IM} {s c : Nat} {p f : Nat → Nat} (h : StR I s c p f) (e : ∀ a, s < a → a < s + 7 → J a = I a) : StR J s c p f := by
  obtain ⟨h1, L, h2, h3⟩ := h
  exact ⟨kRow_of h1 (e _ (by omega) (by omega)) (e _ (by omega) (by omega)) (e _ (by omega) (by omega)), L, kIx_of h2 (fun j _ => by rw [e (s + 1 + 3) (by omega) (by omega)]) (e _ (by omega) (by omega)) (e _ (by omega) (by omega)), h3⟩
theorem StC_of {I J : kv_IM} {s : Nat} {σ : kSt} (h : StC I s σ) (e : ∀ a, s < a → a ≤ s + 29 → J a = I a) : StC J s σ := by
  obtain ⟨c, p, f, u, th, z, g⟩ := σ
  obtain ⟨h1, h2, h3⟩ := h
  exact ⟨StR_of h1 (fun a b1 b2 => e a b1 (by omega)), fun k hk => by rw [e (s + 7) (by omega) (by omega)]; exact h2 k hk, fun q hq => StQ_of (h3 q hq) (e _ (by omega) (by omega)) (e _ (by omega) (by omega))⟩
abbrev kSn (th : Nat → Bool) (t : Int32) : Prop := (0 ≤ t.toInt ∧ t.toInt < 10) ∧ th (tN t) = true
theorem snpA_k {r k : Nat} (h : k < 10) : snpA r k = some (r + 10 + 2 * k) := if_pos h
theorem c_Sto_has {d : Nat} {B : kv_B} {n : Nat} {S : kv_SM} {I : kv_IM} {s : Nat} {th : Nat → Bool} (t : Int32) (hS : StoS S s) (hT : ∀ q, q < 10 → I (s + 10 + 2 * q) 3 = kBo (th q)) : kv_P y_Sto_has d B [.ref s, .int t] n S I (kQi (kB (kSn th t)) I) := by
  obtain ⟨s0, s1, s2, s3, s4, s5⟩ := id hS
  have t10 : (10 : Int32).toInt = 10 := by decide
  refine kv_P.of (by decide +kernel) rfl (Nat.le_of_ble_eq_true rfl) ?_
  have bad : ¬ kSn th t → kv_V y_Sto_has d B (kv_PQ n S (kQi (kB (kSn th t)) I)) 0 0 n S I 26 [(0, .ref s), (1, .int t)] [] := fun hn => bl_Sto_has_26 (bl_Sto_has_27 rfl (kQi_end (kB_f hn).symm))
  refine bl_Sto_has_0 (fun h => bad ?_) (fun h => ?_)
  · have h := i_lt.mp h
    simp only [Int32.toInt_zero] at h
    exact fun q => by have := q.1.1; omega
  have h0 := i_nlt.mp h
  simp only [Int32.toInt_zero] at h0
  refine bl_Sto_has_4 (fun h => bad ?_) (fun h => ?_)
  · have h := i_le.mp h
    exact fun q => by have := q.1.2; omega
  have h1 := i_nle.mp h
  rw [t10] at h1
  obtain ⟨i1, i2, i3⟩ := tN_of h0
  have hq : tN t < 10 := by omega
  refine bl_Sto_has_10 s0 rfl s4 (j4 := tN t) ⟨i1, hq, by omega⟩ (snpA_k hq) (s5 _ hq).1 (fun h => bad ?_) (fun h => ?_)
  · rw [hT _ hq] at h
    exact fun q => by have q2 := q.2; rw [kBo_e0.mp h] at q2; exact Bool.noConfusion q2
  · rw [hT _ hq] at h
    refine bl_Sto_has_22 (bl_Sto_has_27 rfl (kQi_end (kB_t ⟨⟨h0, h1⟩, ?_⟩).symm))
    cases e : th (tN t)
    · exact absurd (kBo_e0.mpr e) h
    · rfl
def sTold (p : Nat → Nat) (th : Nat → Bool) (z : Nat → Nat) (g : Nat → Nat → Nat) (t w : Int32) : Int32 := if kSn th t ∧ (0 ≤ w.toInt ∧ w.toInt ≤ 1) then (if w = 0 then nI (z (tN t)) else nI (kSl p (g (tN t)) (z (tN t)))) else -1
theorem c_Cb_told {d : Nat} {B : kv_B} {n : Nat} {S : kv_SM} {I : kv_IM} (hd : 1 ≤ d) {o : Nat} {c : Nat} {p f u : Nat → Nat} {th : Nat → Bool} {z : Nat → Nat} {g : Nat → Nat → Nat} (t w : Int32) (hS : CbS S o) (hC : StC I (o + 32) (c, p, f, u, th, z, g)) :
    kv_P y_Cb_told d B [.ref o, .int t, .int w] n S I (kQi (sTold p th z g t w) I) := by
  obtain ⟨s0, s1, s2, s3, s4⟩ := id hS
  obtain ⟨c1, c2, c3⟩ := id hC
  have t1 : (1 : Int32).toInt = 1 := by decide
  refine kv_P.of (by decide +kernel) rfl (Nat.le_of_ble_eq_true rfl) ?_
  have bad : ¬ (kSn th t ∧ (0 ≤ w.toInt ∧ w.toInt ≤ 1)) → kv_V y_Cb_told d B (kv_PQ n S (kQi (sTold p th z g t w) I)) 0 0 n S I 20 [(0, .ref o), (1, .int t), (2, .int w)] [] := by
    intro hn
    refine bl_Cb_told_20 (kQi_end ?_)
    unfold sTold
    rw [if_neg hn]
  refine bp_Cb_told_0 (dc := 0) s0 rfl s4.1 (c_Sto_has t s4 (fun q hq => (c3 q hq).1)) (by omega) (fun v J hv => ?_)
  obtain ⟨rfl, rfl⟩ := hv
  refine bl_Cb_told_8 (fun h => bad (fun q => kB_e0.mp h q.1)) (fun h => ?_)
  have hn := Classical.not_not.mp (fun q => h (kB_e0.mpr q))
  refine bl_Cb_told_11 (fun h => bad ?_) (fun h => ?_)
  · have h := i_lt.mp h
    simp only [Int32.toInt_zero] at h
    exact fun q => by have := q.2.1; omega
  have w0 := i_nlt.mp h
  simp only [Int32.toInt_zero] at w0
  refine bl_Cb_told_15 (fun h => ?_) (fun h => bad ?_)
  rotate_left
  · have h := i_nle.mp h
    exact fun q => by have := q.2.2; omega
  have w1 := i_le.mp h
  rw [t1] at w1
  obtain ⟨i1, i2, i3⟩ := tN_of hn.1.1
  have hq : tN t < 10 := by have := hn.1.2; omega
  have h9 := s4.2.2.2.2.2 _ hq
  obtain ⟨e1, e2, e3⟩ := (c3 _ hq).2 hn.2
  refine bl_Cb_told_22 s0 rfl s4.1 rfl s4.2.2.2.2.1 (j6 := tN t) ⟨i1, hq, by omega⟩ (snpA_k hq) (fun h => ?_) (fun h => ?_)
  · refine bl_Cb_told_43 h9.1 (bl_Cb_told_47 (kQi_end ?_))
    unfold sTold
    rw [if_pos ⟨hn, w0, w1⟩, if_neg h, e2]
  · refine bl_Cb_told_36 h9.1 (bl_Cb_told_47 (kQi_end ?_))
    unfold sTold
    rw [if_pos ⟨hn, w0, w1⟩, if_pos h, e1]
def kLs (P : Nat → Bool) : Nat → Nat → Nat
  | 0, k => k
  | j + 1, k => if P k then k else kLs P j (k + 1)
theorem kLs_spec {P : Nat → Bool} : ∀ (j k : Nat), k ≤ kLs P j k ∧ kLs P j k ≤ k + j ∧ (∀ i, k ≤ i → i < kLs P j k → P i = false) ∧ (kLs P j k < k + j → P (kLs P j k) = true)
  | 0, k => ⟨Nat.le_refl _, Nat.le_refl _, fun i h1 h2 => by rw [kLs] at h2; omega, fun h => by rw [kLs] at h; omega⟩
  | j + 1, k => by
    rw [kLs]
    cases e : P k
    · obtain ⟨h1, h2, h3, h4⟩ := kLs_spec (P := P) j (k + 1)
      rw [if_neg (by simp)]
      refine ⟨by omega, by omega, fun i b1 b2 => ?_, fun h => h4 (by omega)⟩
      by_cases hi : i = k
      · rw [hi]; exact e
      · exact h3 i (by omega) b2
    · rw [if_pos rfl]
      exact ⟨Nat.le_refl _, by omega, fun i h1 h2 => by omega, fun _ => e⟩
theorem kLs_eq {P : Nat → Bool} {m j : Nat} (h1 : j < m) (h2 : P j = true) (h3 : ∀ i, i < j → P i = false) : kLs P m 0 = j := by
  obtain ⟨a1, a2, a3, a4⟩ := kLs_spec (P := P) m 0
  by_cases e : kLs P m 0 = j
  · exact e
  · exfalso
    by_cases l : kLs P m 0 < j
    · have := a4 (by omega)
      rw [h3 _ l] at this
      cases this
    · have := a3 j (by omega) (by omega)
      rw [h2] at this
      cases this
theorem kLs_no {P : Nat → Bool} {m : Nat} (h : ∀ i, i < m → P i = false) : kLs P m 0 = m := by
  obtain ⟨a1, a2, a3, a4⟩ := kLs_spec (P := P) m 0
  by_cases e : kLs P m 0 = m
  · exact e
  · have := a4 (by omega)
    rw [h _ (by omega)] at this
    cases this
def kFd (f p : Nat → Nat) (c : Nat) (tf tp : Nat → Nat) (k : Nat) : Nat := kLs (fun j => decide (kLike f p j tf tp k)) c 0
theorem kFd_eq {f p : Nat → Nat} {c : Nat} {tf tp : Nat → Nat} {k j : Nat} (hu : ∀ k k', k < c → k' < c → kLike f p k f p k' → k = k') (hj : j < c) (hl : kLike f p j tf tp k) : kFd f p c tf tp k = j :=
  kLs_eq hj (decide_eq_true hl) (fun i hi => decide_eq_false (fun q => by
    have := hu i j (by omega) hj (kLike_trans q (kLike_symm hl))
    omega))
theorem kFd_no {f p : Nat → Nat} {c : Nat} {tf tp : Nat → Nat} {k : Nat} (h : ∀ j, j < c → ¬ kLike f p j tf tp k) : kFd f p c tf tp k = c := kLs_no (fun i hi => decide_eq_false (h i hi))
theorem kFd_lt {f p : Nat → Nat} {c : Nat} {tf tp : Nat → Nat} {k : Nat} (h : kFd f p c tf tp k < c) : kLike f p (kFd f p c tf tp k) tf tp k := by
  obtain ⟨a1, a2, a3, a4⟩ := kLs_spec (P := fun j => decide (kLike f p j tf tp k)) c 0
  exact of_decide_eq_true (a4 (by rw [Nat.zero_add]; exact h))
theorem kFd_le {f p : Nat → Nat} {c : Nat} {tf tp : Nat → Nat} {k : Nat} : kFd f p c tf tp k ≤ c := by
  have := (kLs_spec (P := fun j => decide (kLike f p j tf tp k)) c 0).2.1
  unfold kFd
  omega
theorem kFd_c {f p : Nat → Nat} {c : Nat} {tf tp : Nat → Nat} {k : Nat} (h : kFd f p c tf tp k = c) : ∀ j, j < c → ¬ kLike f p j tf tp k := by
  intro j hj
  obtain ⟨a1, a2, a3, a4⟩ := kLs_spec (P := fun j => decide (kLike f p j tf tp k)) c 0
  exact of_decide_eq_false (a3 j (by omega) (by unfold kFd at h; omega))
abbrev kFv (c j : Nat) : Int32 := if j = c then -1 else nI j
theorem c_find {d : Nat} {B : kv_B} {n : Nat} {S : kv_SM} {I : kv_IM} (hd : 2 ≤ d) {s c x N k : Nat} {p f tf tp : Nat → Nat} (hS : StoS S s) (hR : StR I s c p f) (hu : ∀ k k', k < c → k' < c → kLike f p k f p k' → k = k') (hS' : RowS S x 1500 1500) (hR' : kRow I x 1500 1500 tf tp N) (hk : k < N) (e2 : I (x + 3) k = kFnv tf (tp k) (tp (k + 1) - tp k)) :
    kv_P y_Row_find d B [.ref (s + 1), .ref x, .int (nI k)] n S I (kQi (kFv c (kFd f p c tf tp k)) I) := by
  obtain ⟨r1, L, r2, r3⟩ := hR
  refine (c_Row_find hd hS.2.1 (by omega) (by omega) r1 r2 (Nat.le_refl _) hS' (by omega) (by omega) hR' hk e2).mono ?_
  intro v J hv
  obtain ⟨rfl, hv⟩ := hv
  refine ⟨?_, rfl⟩
  rcases hv with ⟨j, h1, h2, rfl⟩ | ⟨h1, rfl⟩
  · have hj := kDec_mem (r2.2 _ (kKN_lt _)).2.1 j h1
    rw [kFd_eq hu hj h2]
    unfold kFv
    rw [if_neg (by omega)]
  · rw [kFd_no (fun j hj hl => h1 j (by
      have e : kKey tf tp k = kKey f p j := by
        unfold kKey
        rw [kLike_fnv hl]
      rw [e]
      exact r3 j hj) hl)]
    unfold kFv
    rw [if_pos rfl]
def sUses (ru : Nat → Nat) (tab : Nat → Int32) (len : Nat → Nat) (tb : Nat → Nat → Nat) (c : Nat) (p f u : Nat → Nat) (t k : Int32) : Int32 :=
  if kHB ru tab len tb t k then (if kFd f p c (tb (tN t)) (kPos ru tab (tb (tN t)) (len (tN t))) (tN k) = c then 0 else nI (u (kFd f p c (tb (tN t)) (kPos ru tab (tb (tN t)) (len (tN t))) (tN k)))) else -1
theorem c_Sto_placesOf {d : Nat} {B : kv_B} {n : Nat} {S : kv_SM} {I : kv_IM} (hd : 3 ≤ d) {s c x N k : Nat} {p f u tf tp : Nat → Nat} (hS : StoS S s) (hR : StR I s c p f) (hU : ∀ k, k < c → I (s + 7) k = nI (u k)) (hc : c ≤ 300) (hu : ∀ k k', k < c → k' < c → kLike f p k f p k' → k = k') (hS' : RowS S x 1500 1500) (hR' : kRow I x 1500 1500 tf tp N) (hk : k < N) (e2 : I (x + 3) k = kFnv tf (tp k) (tp (k + 1) - tp k)) :
    kv_P y_Sto_placesOf d B [.ref s, .ref x, .int (nI k)] n S I (kQi (if kFd f p c tf tp k = c then 0 else nI (u (kFd f p c tf tp k))) I) := by
  obtain ⟨s0, s1, s2, s3, s4, s5⟩ := id hS
  refine kv_P.of (by decide +kernel) rfl (Nat.le_of_ble_eq_true rfl) ?_
  refine bp_Sto_placesOf_0 (dc := 2) s0 rfl s1.1 (c_find (by omega) hS hR hu hS' hR' hk e2) (by omega) (fun v J hv => ?_)
  obtain ⟨rfl, rfl⟩ := hv
  have hle := kFd_le (f := f) (p := p) (c := c) (tf := tf) (tp := tp) (k := k)
  generalize kFd f p c tf tp k = j at *
  by_cases e : j = c
  · rw [if_pos e]
    refine bl_Sto_placesOf_9 (fun h => absurd (if_pos e) h) (fun _ => ?_)
    exact bl_Sto_placesOf_15 (bl_Sto_placesOf_25 (kQi_end rfl))
  · rw [if_neg e]
    have ev : kFv c j = nI j := if_neg e
    refine bl_Sto_placesOf_9 (fun _ => ?_) (fun h => absurd h (by rw [ev]; exact nI_nm1 (by omega)))
    exact bl_Sto_placesOf_19 s0 rfl s2 (j4 := j) ⟨ev, by omega, by omega⟩ (bl_Sto_placesOf_25 (kQi_end (hU j (by omega))))
theorem c_Cb_uses {d : Nat} {B : kv_B} {n : Nat} {S : kv_SM} {I : kv_IM} (hd : 6 ≤ d) {o : Nat} {ru : Nat → Nat} {tab : Nat → Int32} {len : Nat → Nat} {tb : Nat → Nat → Nat} {c : Nat} {p f u : Nat → Nat} {th : Nat → Bool} {z : Nat → Nat} {g : Nat → Nat → Nat} (t k : Int32) (hS : CbS S o) (hA : CbA I o ru tab len tb) (hok : RuOK ru) (hC : StC I (o + 32) (c, p, f, u, th, z, g)) (hK : StK (c, p, f, u, th, z, g)) :
    kv_P y_Cb_uses d B [.ref o, .int t, .int k] n S I (CbR I o ru tab len tb (.int (sUses ru tab len tb c p f u t k))) := by
  obtain ⟨s0, s1, s2, s3, s4⟩ := id hS
  obtain ⟨k1, k2, k3, k4, k5, k6, k7⟩ := id hK
  refine kv_P.of (by decide +kernel) rfl (Nat.le_of_ble_eq_true rfl) ?_
  refine bp_Cb_uses_0 (dc := 5) s0 (c_Cb_hasBlock (by omega) t k hS hA hok) (by omega) (fun v J hv => ?_)
  obtain ⟨rfl, hF, hA1⟩ := hv
  refine bl_Cb_uses_6 (fun h => ?_) (fun h => ?_)
  · refine bl_Cb_uses_25 (bl_Cb_uses_26 ⟨rfl, rfl, ?_, hF, hA1⟩)
    unfold sUses
    rw [if_neg (kB_e0.mp h)]
  have hb := Classical.not_not.mp (fun q => h (kB_e0.mpr q))
  obtain ⟨ht, hk0, hk1⟩ := id hb
  obtain ⟨hk, et⟩ := kT_of ht
  obtain ⟨i1, i2, i3⟩ := tN_of hk0
  refine bp_Cb_uses_9 (dc := 5) s0 rfl (by rw [et]; exact c_Cb_indexedRow (by omega) hS hA1 hok hk) (by omega) (fun v K hv => ?_)
  obtain ⟨rfl, hF2, hA2, hR, L, hX, hV⟩ := hv
  have hFF : kFr o (o + 31) I K := kFr_tr hF (kFr_mono hF2 (by omega) (by omega))
  obtain ⟨c1, c2, c3⟩ := StC_of (J := K) hC (fun a b1 b2 => hFF a (by omega))
  refine bp_Cb_uses_18 (dc := 3) s4.1 (by rw [i1]; exact c_Sto_placesOf (by omega) s4 c1 c2 k1 k5 (s3 _ hk).2 hR (k := tN k) (by omega) (hX.1 _ (by omega))) (by omega) (fun v M hv => ?_)
  obtain ⟨rfl, rfl⟩ := hv
  refine bl_Cb_uses_22 (bl_Cb_uses_26 ⟨rfl, rfl, ?_, hFF, hA2⟩)
  unfold sUses
  rw [if_pos hb]
