theorem z_m1 {a b : Nat} (h : b ≤ a) : nI a + nI b * (-1) = nI (a - b) := by
  rw [Int32.mul_neg, Int32.mul_one, ← Int32.sub_eq_add_neg, pk_sub h]
theorem c_Sto_letGo {d : Nat} {B : kv_B} {n : Nat} {S : kv_SM} {I : kv_IM} (hd : 3 ≤ d) {s q : Nat} {c : Nat} {p f u : Nat → Nat} {th : Nat → Bool} {z : Nat → Nat} {g : Nat → Nat → Nat} (hS : StoS S s) (hC : StC I s (c, p, f, u, th, z, g)) (hK : StK (c, p, f, u, th, z, g)) (hq : q < 10) (ht : th q = true) :
    kv_P y_Sto_letGo d B [.ref s, .int (nI q)] n S I (fun v J => v = some (.int (nI (p c - kQu (kA1 u z g q) p c))) ∧ (∀ a, (a < s + 1 ∨ s + 29 < a) → J a = I a) ∧ StC J s (kCmp (kA1 u z g q) (c, p, f, kU1 u z g q, kU th q false, z, g))) := by
  obtain ⟨s0, s1, s2, s3, s4, s5⟩ := id hS
  obtain ⟨⟨c1, L, c1a, c1b⟩, c2, c3⟩ := id hC
  obtain ⟨d1, d2⟩ := kDrp hK hq ht
  obtain ⟨k1, k2, k3, k4, k5, k6, k7⟩ := id hK
  obtain ⟨e1, e2, e3⟩ := (c3 q hq).2 ht
  obtain ⟨o1, o2, o3⟩ := k6 q hq ht
  refine kv_P.of (by decide +kernel) rfl (Nat.le_of_ble_eq_true rfl) ?_
  refine bp_Sto_letGo_0 (dc := 0) s0 rfl s4 ⟨rfl, hq, by omega⟩ (snpA_k hq) (c_Sto_countPlaces (-1) hS hq e1 o1 (fun i hi => ⟨e3 i hi, by have := o2 i hi; omega⟩)) (by omega) (fun v J hv => ?_)
  obtain ⟨rfl, hF, hN⟩ := hv
  have eJ : ∀ a, a ≠ s + 7 → a ≠ s + 10 + 2 * q → kv_up J (s + 10 + 2 * q) 3 0 a = I a := fun a h1 h2 => by rw [up_ne h2, hF a h1]
  refine bp_Sto_letGo_13 (dc := 2) (s5 q hq).1 s0 (c_Sto_sweep (A := kA1 u z g q) (u := kU1 u z g q) (th := kU th q false) (z := z) (g := g) (by omega) hS (kRow_of c1 (eJ _ (by omega) (by omega)) (eJ _ (by omega) (by omega)) (eJ _ (by omega) (by omega))) (fun k hk => by rw [eJ _ (by omega) (by omega)]; exact c1a.1 k hk) k2 (fun k hk => ?_) (fun k hk => rfl) (fun q' hq' => ?_) (kOw_th k6) d2) (by omega) (fun v K hv => ?_)
  · obtain ⟨x1, x2, x3⟩ := d1 k hk
    rw [up_ne (by omega), hN, c2 k hk, z_m1 x2]
    exact ⟨rfl, by unfold kU1; omega⟩
  · by_cases e : q' = q
    · subst e
      refine ⟨?_, fun h => ?_⟩
      · rw [kU_s, up_at]
        rfl
      · rw [kU_s] at h
        cases h
    · obtain ⟨y1, y2⟩ := c3 q' hq'
      have z0 : kv_up J (s + 10 + 2 * q) 3 0 (s + 10 + 2 * q') = I (s + 10 + 2 * q') := eJ _ (by omega) (by omega)
      have z1 : kv_up J (s + 10 + 2 * q) 3 0 (s + 10 + 2 * q' + 1) = I (s + 10 + 2 * q' + 1) := eJ _ (by omega) (by omega)
      refine ⟨by rw [kU_n e, z0]; exact y1, fun h => ?_⟩
      rw [kU_n e] at h
      rw [z0, z1]
      exact y2 h
  · obtain ⟨rfl, hF2, hC2⟩ := hv
    exact bl_Sto_letGo_22 ⟨rfl, rfl, rfl, fun a ha => by rw [hF2 a ha, eJ a (by omega) (by omega)], hC2⟩
theorem c_Cb_drop {d : Nat} {B : kv_B} {n : Nat} {S : kv_SM} {I : kv_IM} (hd : 4 ≤ d) {o : Nat} {ru : Nat → Nat} {tab : Nat → Int32} {len : Nat → Nat} {tb : Nat → Nat → Nat} {σ : kSt} (t : Int32) (hS : CbS S o) (hA : CbA I o ru tab len tb) (hC : StC I (o + 32) σ) (hK : StK σ) :
    kv_P y_Cb_drop d B [.ref o, .int t] n S I (fun v J => v = some (.int (sDrop σ t).1) ∧ kFr o (o + 61) I J ∧ CbA J o ru tab len tb ∧ StC J (o + 32) (sDrop σ t).2) := by
  obtain ⟨c, p, f, u, th, z, g⟩ := σ
  obtain ⟨s0, s1, s2, s3, s4⟩ := id hS
  obtain ⟨c1, c2, c3⟩ := id hC
  refine kv_P.of (by decide +kernel) rfl (Nat.le_of_ble_eq_true rfl) ?_
  refine bp_Cb_drop_0 (dc := 0) s0 rfl s4.1 (c_Sto_has t s4 (fun q hq => (c3 q hq).1)) (by omega) (fun v J hv => ?_)
  obtain ⟨rfl, rfl⟩ := hv
  refine bl_Cb_drop_8 (fun h => ?_) (fun h => ?_)
  · have hn := kB_e0.mp h
    have e : sDrop (c, p, f, u, th, z, g) t = (-1, (c, p, f, u, th, z, g)) := if_neg hn
    rw [e]
    exact bl_Cb_drop_22 (bl_Cb_drop_23 ⟨rfl, rfl, rfl, fun _ _ => rfl, hA, hC⟩)
  · have hn := Classical.not_not.mp (fun q => h (kB_e0.mpr q))
    have hq := kT10 hn
    obtain ⟨i1, -, -⟩ := tN_of hn.1.1
    have e : sDrop (c, p, f, u, th, z, g) t = (nI (p c - kQu (kA1 u z g (tN t)) p c), kCmp (kA1 u z g (tN t)) (c, p, f, kU1 u z g (tN t), kU th (tN t) false, z, g)) := if_pos hn
    rw [e]
    refine bp_Cb_drop_11 (dc := 3) s0 rfl s4.1 (Qv := fun v J => v = some (.int (nI (p c - kQu (kA1 u z g (tN t)) p c))) ∧ (∀ a, (a < o + 32 + 1 ∨ o + 32 + 29 < a) → J a = I a) ∧ StC J (o + 32) (kCmp (kA1 u z g (tN t)) (c, p, f, kU1 u z g (tN t), kU th (tN t) false, z, g))) (by
      have hh := c_Sto_letGo (d := 3) (B := B) (n := n) (by omega) s4 hC hK hq hn.2
      rw [← i1] at hh
      exact hh) (by omega) (fun v J hv => ?_)
    obtain ⟨rfl, hF, hC2⟩ := hv
    exact bl_Cb_drop_19 (bl_Cb_drop_23 ⟨rfl, rfl, rfl, fun a ha => hF a (by omega), CbA_of hA (fun a h1 h2 => hF a (by omega)), hC2⟩)
theorem StC_cg {I : kv_IM} {s c : Nat} {p f u P F U : Nat → Nat} {th : Nat → Bool} {z : Nat → Nat} {g G : Nat → Nat → Nat} (h : StC I s (c, P, F, U, th, z, G)) (hP : ∀ k, k ≤ c → p k = P k) (hF : ∀ x, x < P c → f x = F x) (hU : ∀ k, k < c → u k = U k) (hG : ∀ q, q < 10 → th q = true → ∀ i, i < z q → g q i = G q i ∧ g q i < c) : StC I s (c, p, f, u, th, z, g) := by
  obtain ⟨c1, c2, c3⟩ := h
  refine ⟨StR_cg c1 hP hF, fun k hk => by rw [hU k hk]; exact c2 k hk, fun q hq => ?_⟩
  obtain ⟨x1, x2⟩ := c3 q hq
  refine ⟨x1, fun ht => ?_⟩
  obtain ⟨x3, x4, x5⟩ := x2 ht
  refine ⟨x3, ?_, fun i hi => by rw [(hG q hq ht i hi).1]; exact x5 i hi⟩
  rw [x4]
  refine congrArg nI (kSm_congr (fun i hi => ?_))
  obtain ⟨y1, y2⟩ := hG q hq ht i hi
  show P (G q i + 1) - P (G q i) = p (g q i + 1) - p (g q i)
  rw [← y1, hP _ (by omega), hP _ (by omega)]
theorem c_Sto_leastFree {d : Nat} {B : kv_B} {n : Nat} {S : kv_SM} {I : kv_IM} {s : Nat} {th : Nat → Bool} (hS : StoS S s) (hT : ∀ q, q < 10 → I (s + 10 + 2 * q) 3 = kBo (th q)) : kv_P y_Sto_leastFree d B [.ref s] n S I (kQi (kFv 10 (kFree th)) I) := by
  obtain ⟨s0, s1, s2, s3, s4, s5⟩ := id hS
  refine kv_P.of (by decide +kernel) rfl (Nat.le_of_ble_eq_true rfl) ?_
  refine bl_Sto_leastFree_0 ?_
  have loop : ∀ (j k : Nat), k + j = 10 → (∀ q, q < k → th q = true) → kv_V y_Sto_leastFree d B (kv_PQ n S (kQi (kFv 10 (kFree th)) I)) 0 0 n S I 2 [(0, .ref s), (1, .int (nI k))] [] := by
    intro j
    induction j with
    | zero =>
      intro k hk hp
      refine bl_Sto_leastFree_2 (fun _ => ?_) (fun h => absurd (nI_le (a := 10) (by omega) (by omega)) h)
      refine bl_Sto_leastFree_28 (kQi_end ?_)
      have e : kFree th = 10 := kLs_no (fun q hq => by rw [hp q (by omega)]; rfl)
      rw [e]
      exact (if_pos rfl).symm
    | succ j ih =>
      intro k hk hp
      have hq : k < 10 := by omega
      refine bl_Sto_leastFree_2 (fun h => absurd h (nI_ge (b := 10) (by omega) (by omega))) (fun _ => ?_)
      refine bl_Sto_leastFree_8 s0 rfl s4 ⟨rfl, hq, by omega⟩ (snpA_k hq) (s5 _ hq).1 (fun h => ?_) (fun h => ?_)
      · rw [hT _ hq] at h
        refine bl_Sto_leastFree_22 ?_
        rw [nI_1]
        refine ih (k + 1) (by omega) (fun q hq' => ?_)
        by_cases e : q = k
        · rw [e]
          cases e2 : th k
          · exact absurd (kBo_e0.mpr e2) h
          · rfl
        · exact hp q (by omega)
      · rw [hT _ hq] at h
        have e2 := kBo_e0.mp h
        refine bl_Sto_leastFree_20 (kQi_end ?_)
        have e : kFree th = k := kLs_eq hq (by rw [e2]; rfl) (fun i hi => by rw [hp i hi]; rfl)
        rw [e]
        exact (if_neg (by omega)).symm
  exact loop 10 0 (by omega) (fun q hq => absurd hq (by omega))
theorem c_Row_hasRoomFor {d : Nat} {B : kv_B} {n : Nat} {S : kv_SM} {I : kv_IM} (hd : 1 ≤ d) {r nb nk c E N : Nat} (hS : RowS S r nb nk) (hn : nk < 2 ^ 20) (hb : nb < 2 ^ 20) (h0 : 0 < nb) (h1 : 0 < nk) (hc : I r 5 = nI c) (hcn : c ≤ nk) (hE : I (r + 2) c = nI E) (hE2 : E ≤ nb) (hN : N < 2 ^ 20) : kv_P y_Row_hasRoomFor d B [.ref r, .int (nI N)] n S I (kQi (kB (¬ (c = nk ∨ nb < E + N))) I) := by
  obtain ⟨s0, s1, s2, s3, s4, s5⟩ := id hS
  refine kv_P.of (by decide +kernel) rfl (Nat.le_of_ble_eq_true rfl) ?_
  refine bl_Row_hasRoomFor_0 s0 rfl s3 h1 (fun h => ?_) (fun h => ?_)
  · rw [hc, nI_leI (by omega) (by omega)] at h
    exact bl_Row_hasRoomFor_30 (bl_Row_hasRoomFor_31 rfl (kQi_end (kB_f (by omega)).symm))
  · rw [hc, nI_leI (by omega) (by omega)] at h
    refine bp_Row_hasRoomFor_12 (dc := 0) s0 rfl s1 h0 (c_Row_end hS hn hc hcn) (by omega) (fun v J hv => ?_)
    obtain ⟨rfl, rfl⟩ := hv
    rw [hE]
    refine bl_Row_hasRoomFor_22 (fun h => ?_) (fun h => ?_)
    · rw [pk_sub hE2, nI_ltI (by omega) (by omega)] at h
      exact bl_Row_hasRoomFor_30 (bl_Row_hasRoomFor_31 rfl (kQi_end (kB_f (by omega)).symm))
    · rw [pk_sub hE2, nI_ltI (by omega) (by omega)] at h
      exact bl_Row_hasRoomFor_26 (bl_Row_hasRoomFor_31 rfl (kQi_end (kB_t (by omega)).symm))
theorem c_Sto_takeInNew {d : Nat} {B : kv_B} {n : Nat} {S : kv_SM} {I : kv_IM} (hd : 2 ≤ d) {s x k c N : Nat} {p f tf tp : Nat → Nat} (hS : StoS S s) (hX : RowS S x 1500 1500) (hxs : x + 6 ≤ s) (hR : StR I s c p f) (hR' : kRow I x 1500 1500 tf tp N) (hk : k < N) (hc : c < 300) (h6 : p c + kBl tp k ≤ 6000) :
    kv_P y_Sto_takeInNew d B [.ref s, .ref x, .int (nI k)] n S I (kQi (nI c) (kAp (kv_up I (s + 7) c 0) (s + 1) x k c (p c) (kBl tp k) (tp k))) := by
  obtain ⟨s0, s1, s2, s3, s4, s5⟩ := id hS
  obtain ⟨q0, q1, q2, q3, q4, q5⟩ := id hR'
  obtain ⟨r0, r1, r2, r3, r4, r5⟩ := id hR.1
  have m1 := q3 k hk
  have m2 := kMon q3 (i := k + 1) (k := N) (by omega) (Nat.le_refl _)
  have eb : kBl tp k = tp (k + 1) - tp k := rfl
  refine kv_P.of (by decide +kernel) rfl (Nat.le_of_ble_eq_true rfl) ?_
  have e : ∀ a, a ≠ s + 7 → kv_up I (s + 7) c 0 a = I a := fun a ha => up_ne ha
  refine bp_Sto_takeInNew_0 (dc := 1) s0 rfl s1.1 rfl s2 (j6 := c) ⟨r0, by omega, by omega⟩ (c_Row_append (E := p c) (N := kBl tp k) (src := tp k) (by omega) s1 hX (by omega) (by omega) (by omega) (by omega) (by omega) (by omega) (by omega) (by rw [e _ (by omega)]; exact r0) (by omega) (by rw [e _ (by omega)]; exact r2 c (Nat.le_refl _)) (by omega) (by rw [e _ (by omega)]; exact q2 k (by omega)) (by rw [e _ (by omega), q2 (k + 1) (by omega)]; congr 1; omega) (by omega) h6) (by omega) (fun v J hv => ?_)
  obtain ⟨rfl, rfl⟩ := hv
  rw [r0]
  exact bl_Sto_takeInNew_24 ⟨rfl, rfl, rfl, rfl⟩
