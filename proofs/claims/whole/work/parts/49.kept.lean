theorem kCt_s {g : Nat → Nat} {m k : Nat} : kCt g (m + 1) k = kCt g m k + (if g m = k then 1 else 0) := rfl
theorem kDec_cnt {key : Nat → Nat} {kk : Nat} : ∀ {m : Nat} {l : List Nat}, kDec m l → (∀ k ∈ l, key k = kk) → (∀ j, j < m → key j = kk → j ∈ l) → l.length = kCt key m kk
  | 0, [], _, _, _ => rfl
  | 0, k :: l, h, _, _ => absurd h.1 (by omega)
  | m + 1, [], _, _, h3 => by
    have hn : ¬ key m = kk := fun q => by cases h3 m (by omega) q
    rw [kCt_s, if_neg hn, ← kDec_cnt (key := key) (kk := kk) (m := m) (l := []) trivial (fun k hk => by cases hk) (fun j hj q => h3 j (by omega) q)]
    rfl
  | m + 1, k :: l, h, h2, h3 => by
    by_cases e : k = m
    · subst e
      rw [kCt_s, if_pos (h2 _ List.mem_cons_self), List.length_cons, kDec_cnt (key := key) (kk := kk) (m := k) (l := l) h.2 (fun z hz => h2 z (List.mem_cons_of_mem _ hz)) (fun j hj q => by
        rcases List.mem_cons.mp (h3 j (by omega) q) with r | r
        · omega
        · exact r)]
    · have hk := h.1
      have hn : ¬ key m = kk := fun q => by
        rcases List.mem_cons.mp (h3 m (by omega) q) with r | r
        · omega
        · have := kDec_mem h.2 m r
          omega
      rw [kCt_s, if_neg hn, kDec_cnt (key := key) (kk := kk) (m := m) (l := k :: l) ⟨by omega, h.2⟩ h2 (fun j hj q => h3 j (by omega) q)]
      rfl
def kTri : Nat → Nat
  | 0 => 0
  | n + 1 => kTri n + n
theorem kTri_2 : ∀ n, 2 * kTri n = n * (n - 1)
  | 0 => rfl
  | n + 1 => by
    have h := kTri_2 n
    rw [kTri, Nat.mul_add, h]
    cases n with
    | zero => rfl
    | succ n =>
      simp only [Nat.add_sub_cancel]
      rw [Nat.mul_comm (n + 1) n, ← Nat.add_mul]
theorem kTri_le {n : Nat} (h : n ≤ 300) : kTri n ≤ 90000 := by
  have h1 := kTri_2 n
  have h2 : n * (n - 1) ≤ 300 * 300 := Nat.mul_le_mul h (by omega)
  omega
theorem kTri_I {n : Nat} (h : n ≤ 300) : (nI n * (nI n - 1)) / 2 = nI (kTri n) := by
  have h2 := kTri_2 n
  have h3 := kTri_le h
  cases n with
  | zero =>
    rw [nI_0]
    decide
  | succ n =>
    rw [nI_pred, pk_mul]
    show _ / nI 2 = _
    simp only [Nat.add_sub_cancel] at h2
    rw [pk_div (by omega) (by omega) (by omega)]
    congr 1
    omega
def kPr (key : Nat → Nat) : Nat → Nat
  | 0 => 0
  | i + 1 => kPr key i + kCt key i (key i)
theorem kSm_one {a b : Nat → Nat} {k0 : Nat} : ∀ m, kSm (fun k => a k + (if k0 = k then b k else 0)) m = kSm a m + (if k0 < m then b k0 else 0)
  | 0 => rfl
  | m + 1 => by
    rw [kSm, kSm, kSm_one m]
    by_cases h : k0 = m
    · subst h
      rw [if_pos rfl, if_neg (by omega), if_pos (by omega)]
      omega
    · rw [if_neg h]
      by_cases h2 : k0 < m
      · rw [if_pos h2, if_pos (by omega)]
        omega
      · rw [if_neg h2, if_neg (by omega)]
        omega
theorem kPr_eq {key : Nat → Nat} (hk : ∀ j, key j < 256) : ∀ c, kSm (fun k => kTri (kCt key c k)) 256 = kPr key c
  | 0 => by
    have := kSm_bd (h := fun k => kTri (kCt key 0 k)) (b := 0) (m := 256) (fun i _ => Nat.le_refl _)
    rw [kPr]
    omega
  | c + 1 => by
    rw [kPr, ← kPr_eq hk c]
    have e : kSm (fun k => kTri (kCt key (c + 1) k)) 256 = kSm (fun k => kTri (kCt key c k) + (if key c = k then kCt key c k else 0)) 256 := kSm_congr (fun k _ => by
      show kTri (kCt key (c + 1) k) = _
      rw [kCt_s]
      by_cases h : key c = k
      · rw [if_pos h, if_pos h, kTri]
      · rw [if_neg h, if_neg h]
        rfl)
    rw [e, kSm_one, if_pos (hk c)]
def kMx (key : Nat → Nat) : Nat → Nat
  | 0 => 0
  | i + 1 => if kMx key i < kCt key (i + 1) (key i) then kCt key (i + 1) (key i) else kMx key i
def kMo (h : Nat → Nat) : Nat → Nat
  | 0 => 0
  | k + 1 => if kMo h k < h k then h k else kMo h k
theorem kMo_sp {h : Nat → Nat} : ∀ m, (∀ k, k < m → h k ≤ kMo h m) ∧ (kMo h m = 0 ∨ ∃ k, k < m ∧ h k = kMo h m)
  | 0 => ⟨fun k hk => absurd hk (by omega), Or.inl rfl⟩
  | m + 1 => by
    obtain ⟨h1, h2⟩ := kMo_sp (h := h) m
    rw [kMo]
    by_cases q : kMo h m < h m
    · rw [if_pos q]
      refine ⟨fun k hk => ?_, Or.inr ⟨m, by omega, rfl⟩⟩
      by_cases e : k = m
      · rw [e]; exact Nat.le_refl _
      · have := h1 k (by omega)
        omega
    · rw [if_neg q]
      refine ⟨fun k hk => ?_, ?_⟩
      · by_cases e : k = m
        · rw [e]; omega
        · exact h1 k (by omega)
      · rcases h2 with h2 | ⟨k, g1, g2⟩
        · exact Or.inl h2
        · exact Or.inr ⟨k, by omega, g2⟩
theorem kMx_sp {key : Nat → Nat} (hk : ∀ j, key j < 256) : ∀ c, (∀ k, kCt key c k ≤ kMx key c) ∧ (kMx key c = 0 ∨ ∃ k, k < 256 ∧ kCt key c k = kMx key c)
  | 0 => ⟨fun k => Nat.le_refl _, Or.inl rfl⟩
  | c + 1 => by
    obtain ⟨h1, h2⟩ := kMx_sp hk c
    rw [kMx]
    by_cases q : kMx key c < kCt key (c + 1) (key c)
    · rw [if_pos q]
      refine ⟨fun k => ?_, Or.inr ⟨key c, hk c, rfl⟩⟩
      by_cases e : key c = k
      · rw [← e]; exact Nat.le_refl _
      · have := h1 k
        rw [kCt_s, if_neg e]
        omega
    · rw [if_neg q]
      have hb : ∀ k, kCt key (c + 1) k ≤ kMx key c := by
        intro k
        by_cases e : key c = k
        · rw [← e]; omega
        · have := h1 k
          rw [kCt_s, if_neg e]
          omega
      refine ⟨hb, ?_⟩
      rcases h2 with h2 | ⟨k, g1, g2⟩
      · exact Or.inl h2
      · refine Or.inr ⟨k, g1, ?_⟩
        have := hb k
        rw [kCt_s] at this ⊢
        omega
theorem kMo_eq {key : Nat → Nat} (hk : ∀ j, key j < 256) (c : Nat) : kMo (kCt key c) 256 = kMx key c := by
  obtain ⟨h1, h2⟩ := kMx_sp hk c
  obtain ⟨g1, g2⟩ := kMo_sp (h := kCt key c) 256
  apply Nat.le_antisymm
  · rcases g2 with g2 | ⟨k, b1, b2⟩
    · omega
    · rw [← b2]; exact h1 k
  · rcases h2 with h2 | ⟨k, b1, b2⟩
    · omega
    · rw [← b2]; exact g1 k b1
theorem kKey_lt {f p : Nat → Nat} (j : Nat) : kKey f p j < 256 := kKN_lt _
theorem c_Row_chainLength {d : Nat} {B : kv_B} {n : Nat} {S : kv_SM} {I : kv_IM} {s c k : Nat} {p f : Nat → Nat} (hS : StoS S s) (hR : StR I s c p f) (hk : k < 256) : kv_P y_Row_chainLength d B [.ref (s + 1), .int (nI k)] n S I (kQi (nI (kCt (kKey f p) c k)) I) := by
  obtain ⟨r1, L, r2, r3⟩ := hR
  obtain ⟨s0, s1, s2, s3, s4, s5⟩ := id hS.2.1
  obtain ⟨y1, y2, y3⟩ := r2.2 k hk
  have hc := r1.2.1
  have hlen : (L k).length = kCt (kKey f p) c k := kDec_cnt y2 y3 (fun j hj q => by rw [← q]; exact r3 j hj)
  have hle := kDec_len y2
  refine kv_P.of (by decide +kernel) rfl (Nat.le_of_ble_eq_true rfl) ?_
  refine bl_Row_chainLength_0 s0 rfl s5 ⟨rfl, hk, by omega⟩ ?_
  have loop : ∀ (l : List Nat) (h : Int32) (i : Nat), kCh (I (s + 1 + 4)) h l → (∀ j ∈ l, j < c) → i + l.length = (L k).length → kv_V y_Row_chainLength d B (kv_PQ n S (kQi (nI (kCt (kKey f p) c k)) I)) 0 0 n S I 9 [(0, .ref (s + 1)), (1, .int (nI k)), (2, .int (nI i)), (3, .int h)] [] := by
    intro l
    induction l with
    | nil =>
      intro h i h1 h2 h3
      refine bl_Row_chainLength_9 (fun _ => ?_) (fun q => absurd h1 q)
      refine bl_Row_chainLength_35 (kQi_end ?_)
      simp at h3
      rw [h3, hlen]
    | cons j l ih =>
      intro h i h1 h2 h3
      obtain ⟨rfl, h1⟩ := h1
      have hj := h2 j List.mem_cons_self
      simp at h3
      refine bl_Row_chainLength_9 (fun q => absurd q (nI_nm1 (by omega))) (fun _ => ?_)
      refine bl_Row_chainLength_14 s0 (fun q => absurd q (by rw [r1.1]; exact nI_ge (by omega) (by omega))) (fun _ => ?_)
      refine bl_Row_chainLength_22 s0 rfl s4 ⟨rfl, by omega, by omega⟩ ?_
      rw [nI_1]
      exact ih _ (i + 1) h1 (fun q hq => h2 q (List.mem_cons_of_mem _ hq)) (by omega)
  exact loop (L k) _ 0 y1 (fun j hj => kDec_mem y2 j hj) (by omega)
theorem c_Row_pairs {d : Nat} {B : kv_B} {n : Nat} {S : kv_SM} {I : kv_IM} (hd : 1 ≤ d) {s c : Nat} {p f : Nat → Nat} (hS : StoS S s) (hR : StR I s c p f) : kv_P y_Row_pairsOfOneKey d B [.ref (s + 1)] n S I (kQi (nI (kPr (kKey f p) c)) I) := by
  have hc := hR.1.2.1
  refine kv_P.of (by decide +kernel) rfl (Nat.le_of_ble_eq_true rfl) ?_
  refine bl_Row_pairsOfOneKey_0 ?_
  have loop : ∀ (j k : Nat), k + j = 256 → kv_V y_Row_pairsOfOneKey d B (kv_PQ n S (kQi (nI (kPr (kKey f p) c)) I)) 0 0 n S I 4 [(0, .ref (s + 1)), (1, .int (nI (kSm (fun k => kTri (kCt (kKey f p) c k)) k))), (2, .int (nI k))] [] := by
    intro j
    induction j with
    | zero =>
      intro k hk
      refine bl_Row_pairsOfOneKey_4 (fun _ => ?_) (fun q => absurd (nI_le (a := 256) (by omega) (by omega)) q)
      refine bl_Row_pairsOfOneKey_33 (kQi_end ?_)
      rw [← kPr_eq kKey_lt c, show k = 256 by omega]
    | succ j ih =>
      intro k hk
      refine bl_Row_pairsOfOneKey_4 (fun q => absurd q (nI_ge (b := 256) (by omega) (by omega))) (fun _ => ?_)
      refine bp_Row_pairsOfOneKey_11 (dc := 0) hS.2.1.1 (c_Row_chainLength hS hR (by omega)) (by omega) (fun v J hv => ?_)
      obtain ⟨rfl, rfl⟩ := hv
      refine bl_Row_pairsOfOneKey_16 ?_
      have hb := kCt_bd (g := kKey f p) (m := c) (k := k)
      rw [kTri_I (by omega), nI_add, nI_1]
      exact ih (k + 1) (by omega)
  exact loop 256 0 (by omega)
theorem c_Row_most {d : Nat} {B : kv_B} {n : Nat} {S : kv_SM} {I : kv_IM} (hd : 1 ≤ d) {s c : Nat} {p f : Nat → Nat} (hS : StoS S s) (hR : StR I s c p f) : kv_P y_Row_mostOfOneKey d B [.ref (s + 1)] n S I (kQi (nI (kMx (kKey f p) c)) I) := by
  have hc := hR.1.2.1
  have hb : ∀ k, kMo (kCt (kKey f p) c) k ≤ c := by
    intro k
    rcases (kMo_sp (h := kCt (kKey f p) c) k).2 with h | ⟨i, h1, h2⟩
    · omega
    · rw [← h2]; exact kCt_bd
  refine kv_P.of (by decide +kernel) rfl (Nat.le_of_ble_eq_true rfl) ?_
  refine bl_Row_mostOfOneKey_0 ?_
  have loop : ∀ (j k : Nat), k + j = 256 → kv_V y_Row_mostOfOneKey d B (kv_PQ n S (kQi (nI (kMx (kKey f p) c)) I)) 0 0 n S I 4 [(0, .ref (s + 1)), (1, .int (nI (kMo (kCt (kKey f p) c) k))), (2, .int (nI k))] [] := by
    intro j
    induction j with
    | zero =>
      intro k hk
      refine bl_Row_mostOfOneKey_4 (fun _ => ?_) (fun q => absurd (nI_le (a := 256) (by omega) (by omega)) q)
      refine bl_Row_mostOfOneKey_27 (kQi_end ?_)
      rw [← kMo_eq kKey_lt c, show k = 256 by omega]
    | succ j ih =>
      intro k hk
      refine bl_Row_mostOfOneKey_4 (fun q => absurd q (nI_ge (b := 256) (by omega) (by omega))) (fun _ => ?_)
      refine bp_Row_mostOfOneKey_11 (dc := 0) hS.2.1.1 (c_Row_chainLength hS hR (by omega)) (by omega) (fun v J hv => ?_)
      obtain ⟨rfl, rfl⟩ := hv
      refine bl_Row_mostOfOneKey_17 (by omega) ?_
      have h1 := kCt_bd (g := kKey f p) (m := c) (k := k)
      have h2 := hb k
      have e : (if nI (kMo (kCt (kKey f p) c) k) < nI (kCt (kKey f p) c k) then nI (kCt (kKey f p) c k) else nI (kMo (kCt (kKey f p) c) k)) = nI (kMo (kCt (kKey f p) c) (k + 1)) := by
        rw [kMo]
        by_cases q : kMo (kCt (kKey f p) c) k < kCt (kKey f p) c k
        · rw [if_pos q, if_pos (nI_lt q (by omega))]
        · rw [if_neg q, if_neg (nI_nlt (by omega) (by omega))]
      rw [e, nI_1]
      exact ih (k + 1) (by omega)
  exact loop 256 0 (by omega)
theorem c_Sto_snapshotsThere {d : Nat} {B : kv_B} {n : Nat} {S : kv_SM} {I : kv_IM} {s : Nat} {th : Nat → Bool} (hS : StoS S s) (hT : ∀ q, q < 10 → I (s + 10 + 2 * q) 3 = kBo (th q)) : kv_P y_Sto_snapshotsThere d B [.ref s] n S I (kQi (nI (kSm (fun q => if th q = true then 1 else 0) 10)) I) := by
  obtain ⟨s0, s1, s2, s3, s4, s5⟩ := id hS
  refine kv_P.of (by decide +kernel) rfl (Nat.le_of_ble_eq_true rfl) ?_
  refine bl_Sto_snapshotsThere_0 ?_
  have loop : ∀ (j k : Nat), k + j = 10 → kv_V y_Sto_snapshotsThere d B (kv_PQ n S (kQi (nI (kSm (fun q => if th q = true then 1 else 0) 10)) I)) 0 0 n S I 4 [(0, .ref s), (1, .int (nI (kSm (fun q => if th q = true then 1 else 0) k))), (2, .int (nI k))] [] := by
    intro j
    induction j with
    | zero =>
      intro k hk
      refine bl_Sto_snapshotsThere_4 (fun _ => ?_) (fun q => absurd (nI_le (a := 10) (by omega) (by omega)) q)
      refine bl_Sto_snapshotsThere_31 (kQi_end ?_)
      rw [show k = 10 by omega]
    | succ j ih =>
      intro k hk
      refine bl_Sto_snapshotsThere_4 (fun q => absurd q (nI_ge (b := 10) (by omega) (by omega))) (fun _ => ?_)
      have hq : k < 10 := by omega
      have hI := ih (k + 1) (by omega)
      refine bl_Sto_snapshotsThere_10 s0 rfl s4 ⟨rfl, hq, by omega⟩ (snpA_k hq) (s5 _ hq).1 (fun h => ?_) (fun h => ?_)
      · rw [hT _ hq] at h
        have e := kBo_e0.mp h
        refine bl_Sto_snapshotsThere_25 ?_
        rw [nI_1]
        have e1 : kSm (fun q => if th q = true then 1 else 0) (k + 1) = kSm (fun q => if th q = true then 1 else 0) k := by
          rw [kSm, e]
          rfl
        rw [e1] at hI
        exact hI
      · rw [hT _ hq] at h
        have e : th k = true := by
          cases e : th k
          · exact absurd (kBo_e0.mpr e) h
          · rfl
        refine bl_Sto_snapshotsThere_22 (bl_Sto_snapshotsThere_25 ?_)
        rw [nI_1, nI_1]
        have e1 : kSm (fun q => if th q = true then 1 else 0) (k + 1) = kSm (fun q => if th q = true then 1 else 0) k + 1 := by
          rw [kSm, e]
          rfl
        rw [e1] at hI
        exact hI
  exact loop 10 0 (by omega)
theorem c_Sto_allPlaces {d : Nat} {B : kv_B} {n : Nat} {S : kv_SM} {I : kv_IM} {s c : Nat} {p f u : Nat → Nat} (hS : StoS S s) (hR : StR I s c p f) (hU : ∀ k, k < c → I (s + 7) k = nI (u k)) : kv_P y_Sto_allPlaces d B [.ref s] n S I (kQi (nI (kSm u c)) I) := by
  obtain ⟨s0, s1, s2, s3, s4, s5⟩ := id hS
  have hc := hR.1.2.1
  have h5 := hR.1.1
  refine kv_P.of (by decide +kernel) rfl (Nat.le_of_ble_eq_true rfl) ?_
  refine bl_Sto_allPlaces_0 ?_
  have loop : ∀ (j k : Nat), k + j = c → kv_V y_Sto_allPlaces d B (kv_PQ n S (kQi (nI (kSm u c)) I)) 0 0 n S I 4 [(0, .ref s), (1, .int (nI (kSm u k))), (2, .int (nI k))] [] := by
    intro j
    induction j with
    | zero =>
      intro k hk
      refine bl_Sto_allPlaces_4 s0 rfl s1.1 (fun _ => ?_) (fun q => absurd (by rw [h5]; exact nI_le (by omega) (by omega)) q)
      refine bl_Sto_allPlaces_30 (kQi_end ?_)
      rw [show k = c by omega]
    | succ j ih =>
      intro k hk
      refine bl_Sto_allPlaces_4 s0 rfl s1.1 (fun q => absurd q (by rw [h5]; exact nI_ge (by omega) (by omega))) (fun _ => ?_)
      refine bl_Sto_allPlaces_15 s0 rfl s2 ⟨rfl, by omega, by omega⟩ ?_
      rw [hU k (by omega), nI_add, nI_1]
      exact ih (k + 1) (by omega)
  exact loop c 0 (by omega)
def sKept (c : Nat) (p f u : Nat → Nat) (th : Nat → Bool) (w : Int32) : Int32 :=
  if w = nI 0 then nI (kSm (fun q => if th q = true then 1 else 0) 10) else if w = nI 1 then nI c else if w = nI 2 then nI (p c) else if w = nI 3 then nI (kSm u c) else if w = nI 4 then nI (kPr (kKey f p) c) else if w = nI 5 then nI (kMx (kKey f p) c) else -1
theorem sKept_0 {c : Nat} {p f u : Nat → Nat} {th : Nat → Bool} : sKept c p f u th (nI 0) = nI (kSm (fun q => if th q = true then 1 else 0) 10) := if_pos rfl
theorem sKept_1 {c : Nat} {p f u : Nat → Nat} {th : Nat → Bool} : sKept c p f u th (nI 1) = nI c := by
  unfold sKept
  rw [if_neg (by decide), if_pos rfl]
theorem sKept_2 {c : Nat} {p f u : Nat → Nat} {th : Nat → Bool} : sKept c p f u th (nI 2) = nI (p c) := by
  unfold sKept
  rw [if_neg (by decide), if_neg (by decide), if_pos rfl]
theorem sKept_3 {c : Nat} {p f u : Nat → Nat} {th : Nat → Bool} : sKept c p f u th (nI 3) = nI (kSm u c) := by
  unfold sKept
  rw [if_neg (by decide), if_neg (by decide), if_neg (by decide), if_pos rfl]
theorem sKept_4 {c : Nat} {p f u : Nat → Nat} {th : Nat → Bool} : sKept c p f u th (nI 4) = nI (kPr (kKey f p) c) := by
  unfold sKept
  rw [if_neg (by decide), if_neg (by decide), if_neg (by decide), if_neg (by decide), if_pos rfl]
theorem sKept_5 {c : Nat} {p f u : Nat → Nat} {th : Nat → Bool} : sKept c p f u th (nI 5) = nI (kMx (kKey f p) c) := by
  unfold sKept
  rw [if_neg (by decide), if_neg (by decide), if_neg (by decide), if_neg (by decide), if_neg (by decide), if_pos rfl]
theorem sKept_d {c : Nat} {p f u : Nat → Nat} {th : Nat → Bool} {w : Int32} (h : ∀ k : Nat, k < 6 → ¬ w = nI k) : sKept c p f u th w = -1 := by
  unfold sKept
  rw [if_neg (h 0 (by omega)), if_neg (h 1 (by omega)), if_neg (h 2 (by omega)), if_neg (h 3 (by omega)), if_neg (h 4 (by omega)), if_neg (h 5 (by omega))]
theorem c_Cb_kept {d : Nat} {B : kv_B} {n : Nat} {S : kv_SM} {I : kv_IM} (hd : 2 ≤ d) {o : Nat} {c : Nat} {p f u : Nat → Nat} {th : Nat → Bool} {z : Nat → Nat} {g : Nat → Nat → Nat} (w : Int32) (hS : CbS S o) (hC : StC I (o + 32) (c, p, f, u, th, z, g)) :
    kv_P y_Cb_kept d B [.ref o, .int w] n S I (kQi (sKept c p f u th w) I) := by
  obtain ⟨s0, s1, s2, s3, s4⟩ := id hS
  obtain ⟨c1, c2, c3⟩ := id hC
  have hc := c1.1.2.1
  refine kv_P.of (by decide +kernel) rfl (Nat.le_of_ble_eq_true rfl) ?_
  refine bl_Cb_kept_0 (fun h => ?_) (fun h => ?_) (fun h => ?_) (fun h => ?_) (fun h => ?_) (fun h => ?_) (fun h => ?_)
  · subst h
    refine bp_Cb_kept_40 (dc := 0) s0 rfl s4.1 (c_Sto_snapshotsThere s4 (fun q hq => (c3 q hq).1)) (by omega) (fun v J hv => ?_)
    obtain ⟨rfl, rfl⟩ := hv
    exact bl_Cb_kept_47 (kQi_end sKept_0.symm)
  · subst h
    refine bl_Cb_kept_48 s0 rfl s4.1 rfl s4.2.1.1 (kQi_end ?_)
    rw [sKept_1]
    exact c1.1.1
  · subst h
    refine bp_Cb_kept_59 (dc := 0) s0 rfl s4.1 rfl s4.2.1.1 (c_Row_end s4.2.1 (by omega) c1.1.1 (by omega)) (by omega) (fun v J hv => ?_)
    obtain ⟨rfl, rfl⟩ := hv
    refine bl_Cb_kept_69 (kQi_end ?_)
    rw [sKept_2]
    exact c1.1.2.2.1 c (Nat.le_refl _)
  · subst h
    refine bp_Cb_kept_70 (dc := 0) s0 rfl s4.1 (c_Sto_allPlaces s4 c1 c2) (by omega) (fun v J hv => ?_)
    obtain ⟨rfl, rfl⟩ := hv
    exact bl_Cb_kept_77 (kQi_end sKept_3.symm)
  · subst h
    refine bp_Cb_kept_78 (dc := 1) s0 rfl s4.1 rfl s4.2.1.1 (c_Row_pairs (by omega) s4 c1) (by omega) (fun v J hv => ?_)
    obtain ⟨rfl, rfl⟩ := hv
    exact bl_Cb_kept_88 (kQi_end sKept_4.symm)
  · subst h
    refine bp_Cb_kept_89 (dc := 1) s0 rfl s4.1 rfl s4.2.1.1 (c_Row_most (by omega) s4 c1) (by omega) (fun v J hv => ?_)
    obtain ⟨rfl, rfl⟩ := hv
    exact bl_Cb_kept_99 (kQi_end sKept_5.symm)
  · exact bl_Cb_kept_100 (kQi_end (sKept_d h).symm)
