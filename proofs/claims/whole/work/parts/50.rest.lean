def kCat (f p : Nat → Nat) (g : Nat → Nat) : Nat → Nat → Nat
  | 0 => fun _ => 0
  | m + 1 => fun i => if i < kSl p g m then kCat f p g m i else f (p (g m) + (i - kSl p g m))
theorem kSl_s {p g : Nat → Nat} {m : Nat} : kSl p g (m + 1) = kSl p g m + kBl p (g m) := rfl
theorem kSl_le {p g : Nat → Nat} {m m' : Nat} (h : m ≤ m') : kSl p g m ≤ kSl p g m' := kSm_le h
def sRes (len : Nat → Nat) (tb : Nat → Nat → Nat) (p f : Nat → Nat) (th : Nat → Bool) (z : Nat → Nat) (g : Nat → Nat → Nat) (q t : Int32) : kR3 :=
  if kSn th q ∧ kT t then (nI (kSl p (g (tN q)) (z (tN q))), kU len (tN t) (kSl p (g (tN q)) (z (tN q))), kU tb (tN t) (kCat f p (g (tN q)) (z (tN q)))) else (-1, len, tb)
theorem c_Sto_giveBack {d : Nat} {B : kv_B} {n : Nat} {S : kv_SM} {I : kv_IM} (hd : 2 ≤ d) {s q x c zz : Nat} {p f gg : Nat → Nat} (hS : StoS S s) (hX : TxtS S x) (hsx : x + 6 < s) (hR : kRow I (s + 1) 6000 300 f p c) (hq : q < 10) (hz : I (s + 10 + 2 * q) 1 = nI zz) (hg : ∀ i, i < zz → I (s + 10 + 2 * q + 1) i = nI (gg i) ∧ gg i < c) (hz2 : zz ≤ 1500) (hl : kSl p gg zz ≤ 1500) :
    kv_P y_Sto_giveBack d B [.ref s, .int (nI q), .ref x] n S I (fun v J => v = some (.int (nI (kSl p gg zz))) ∧ ∃ K, J = kChg K x (nI (kSl p gg zz)) ∧ (∀ a, a ≠ x + 2 → K a = I a) ∧ kTx K (x + 2) 0 (kCat f p gg zz) (kSl p gg zz)) := by
  obtain ⟨s0, s1, s2, s3, s4, s5⟩ := id hS
  obtain ⟨x0, x1⟩ := id hX
  have sq := s5 q hq
  refine kv_P.of (by decide +kernel) rfl (Nat.le_of_ble_eq_true rfl) ?_
  refine bl_Sto_giveBack_0 s0 rfl s4 ⟨rfl, hq, by omega⟩ (snpA_k hq) ?_
  have loop : ∀ (j m : Nat) (J : kv_IM), m + j = zz → (∀ a, a ≠ x + 2 → J a = I a) → kTx J (x + 2) 0 (kCat f p gg m) (kSl p gg m) → kv_V y_Sto_giveBack d B (kv_PQ n S (fun v J => v = some (.int (nI (kSl p gg zz))) ∧ ∃ K, J = kChg K x (nI (kSl p gg zz)) ∧ (∀ a, a ≠ x + 2 → K a = I a) ∧ kTx K (x + 2) 0 (kCat f p gg zz) (kSl p gg zz))) 0 0 n S J 13 [(0, .ref s), (1, .int (nI q)), (2, .ref x), (3, .ref (s + 10 + 2 * q)), (4, .int (nI (kSl p gg m))), (5, .int (nI m))] [] := by
    intro j
    induction j with
    | zero =>
      intro m J hm hF hT
      have hm' : m = zz := by omega
      subst hm'
      have e1 : J (s + 10 + 2 * q) 1 = nI m := by rw [hF _ (by omega)]; exact hz
      refine bl_Sto_giveBack_13 sq.1 (fun _ => ?_) (fun h => absurd (by rw [e1]; exact nI_le (Nat.le_refl _) (by omega)) h)
      refine bp_Sto_giveBack_86 (dc := 1) x0 (c_Txt_changedTo (by omega) _ hX) (by omega) (fun v K hv => ?_)
      obtain ⟨rfl, rfl⟩ := hv
      exact bl_Sto_giveBack_92 ⟨rfl, rfl, rfl, J, rfl, hF, hT⟩
    | succ j ih =>
      intro m J hm hF hT
      have e1 : J (s + 10 + 2 * q) 1 = nI zz := by rw [hF _ (by omega)]; exact hz
      obtain ⟨g1, g2⟩ := hg m (by omega)
      have e2 : J (s + 10 + 2 * q + 1) m = nI (gg m) := by rw [hF _ (by omega)]; exact g1
      obtain ⟨r0, r1, r2, r3, r4, r5⟩ := kRow_of (J := J) hR (hF _ (by omega)) (hF _ (by omega)) (hF _ (by omega))
      have m1 := r3 (gg m) g2
      have m2 := kMon r3 (i := gg m + 1) (k := c) (by omega) (Nat.le_refl _)
      have hs := kSl_s (p := p) (g := gg) (m := m)
      have hle := kSl_le (p := p) (g := gg) (m := m + 1) (m' := zz) (by omega)
      have ebl : kBl p (gg m) = p (gg m + 1) - p (gg m) := rfl
      refine bl_Sto_giveBack_13 sq.1 (fun h => absurd h (by rw [e1]; exact nI_ge (by omega) (by omega))) (fun _ => ?_)
      refine bp_Sto_giveBack_22 (dc := 0) sq.1 rfl sq.2 ⟨rfl, by omega, by omega⟩ s0 rfl s1.1 (by rw [e2]; exact c_Row_bytesOf s1 (by omega) (k := gg m) (by omega)) (by omega) (fun v K hv => ?_)
      obtain ⟨rfl, rfl⟩ := hv
      have en : J (s + 1 + 2) (gg m + 1) - J (s + 1 + 2) (gg m) = nI (kBl p (gg m)) := by
        rw [r2 _ (by omega), r2 _ (by omega), pk_sub (by omega)]
      rw [en, e2]
      refine bl_Sto_giveBack_40 (by omega) s0 rfl s1.1 rfl rfl s1.2.2.1 (j7 := gg m) ⟨rfl, by omega, by omega⟩ x0 rfl x1.1 rfl s1.2.1 x1.2.1 (sp14 := p (gg m)) (dp14 := kSl p gg m) (N14 := kBl p (gg m)) ⟨⟨by omega, by omega, by omega, by omega⟩, ⟨r2 _ (by omega), rfl, rfl⟩, by omega, by omega⟩ ?_
      rw [nI_add, nI_1, ← hs]
      refine ih (m + 1) _ (by omega) (fun a ha => ?_) (fun i hi => ?_)
      · funext i
        unfold kv_cp
        rw [if_neg (by omega), hF a ha]
      · unfold kv_cp
        rw [if_pos rfl, Nat.zero_add]
        show _ = nI (if i < kSl p gg m then kCat f p gg m i else f (p (gg m) + (i - kSl p gg m))) ∧ (if i < kSl p gg m then kCat f p gg m i else f (p (gg m) + (i - kSl p gg m))) < 256
        by_cases hlt : i < kSl p gg m
        · rw [if_pos hlt, pk_cpy_out (Or.inl hlt)]
          have t := hT i hlt
          rw [Nat.zero_add] at t
          exact t
        · rw [if_neg hlt, pk_cpy_in (by omega) (by omega)]
          have t := r5 (p (gg m) + (i - kSl p gg m)) (by omega)
          rw [Nat.zero_add] at t
          exact t
  exact loop zz 0 I (by omega) (fun _ _ => rfl) (fun i hi => absurd hi (Nat.not_lt_zero _))
theorem c_Cb_restore {d : Nat} {B : kv_B} {n : Nat} {S : kv_SM} {I : kv_IM} (hd : 3 ≤ d) {o : Nat} {ru : Nat → Nat} {tab : Nat → Int32} {len : Nat → Nat} {tb : Nat → Nat → Nat} {c : Nat} {p f u : Nat → Nat} {th : Nat → Bool} {z : Nat → Nat} {g : Nat → Nat → Nat} (q t : Int32) (hS : CbS S o) (hA : CbA I o ru tab len tb) (hC : StC I (o + 32) (c, p, f, u, th, z, g)) (hK : StK (c, p, f, u, th, z, g)) :
    kv_P y_Cb_restore d B [.ref o, .int q, .int t] n S I (CbQ I o ru tab (sRes len tb p f th z g q t)) := by
  obtain ⟨s0, s1, s2, s3, s4⟩ := id hS
  obtain ⟨c1, c2, c3⟩ := id hC
  obtain ⟨k1, k2, k3, k4, k5, k6, k7⟩ := id hK
  refine kv_P.of (by decide +kernel) rfl (Nat.le_of_ble_eq_true rfl) ?_
  have bad : ¬ (kSn th q ∧ kT t) → kv_V y_Cb_restore d B (kv_PQ n S (CbQ I o ru tab (sRes len tb p f th z g q t))) 0 0 n S I 18 [(0, .ref o), (1, .int q), (2, .int t)] [] := by
    intro hn
    have e : sRes len tb p f th z g q t = (-1, len, tb) := by
      unfold sRes
      rw [if_neg hn]
    rw [e]
    exact bl_Cb_restore_18 ⟨rfl, rfl, rfl, fun _ _ => rfl, hA⟩
  refine bp_Cb_restore_0 (dc := 0) s0 rfl s4.1 (c_Sto_has q s4 (fun q hq => (c3 q hq).1)) (by omega) (fun v J hv => ?_)
  obtain ⟨rfl, rfl⟩ := hv
  refine bl_Cb_restore_8 (fun h => bad (fun r => kB_e0.mp h r.1)) (fun h => ?_)
  have hn := Classical.not_not.mp (fun r => h (kB_e0.mpr r))
  refine bp_Cb_restore_11 (dc := 0) (c_Cb_isText t) (by omega) (fun v J hv => ?_)
  obtain ⟨rfl, rfl⟩ := hv
  refine bl_Cb_restore_15 (fun h => ?_) (fun h => bad (fun r => kB_e0.mp h r.2))
  have ht : kT t := Classical.not_not.mp (fun r => h (kB_e0.mpr r))
  obtain ⟨hk, et⟩ := kT_of ht
  obtain ⟨i1, i2, i3⟩ := tN_of hn.1.1
  have hq : tN q < 10 := by have := hn.1.2; omega
  obtain ⟨e1, e2, e3⟩ := (c3 _ hq).2 hn.2
  obtain ⟨w1, w2, w3⟩ := k6 _ hq hn.2
  have e : sRes len tb p f th z g q t = (nI (kSl p (g (tN q)) (z (tN q))), kU len (tN t) (kSl p (g (tN q)) (z (tN q))), kU tb (tN t) (kCat f p (g (tN q)) (z (tN q)))) := by
    unfold sRes
    rw [if_pos ⟨hn, ht⟩]
  rw [e]
  refine bp_Cb_restore_20 (dc := 2) s0 rfl rfl s2 (j5 := tN t) ⟨et, hk, by omega⟩ (txtA_k hk) s4.1 (by
    rw [i1]
    exact c_Sto_giveBack (by omega) s4 (s3 _ hk) (by omega) c1.1 hq e1 (fun i hi => ⟨e3 i hi, w2 i hi⟩) w1 w3) (by omega) (fun v J hv => ?_)
  obtain ⟨hv, K, rfl, hF, hT⟩ := hv
  subst hv
  have hx3 := (hA.2.2 _ hk).2.2.2.1
  have hFr : kFr (o + 4 + 7 * tN t) (o + 4 + 7 * tN t + 6) I (kChg K (o + 4 + 7 * tN t) (nI (kSl p (g (tN q)) (z (tN q))))) := by
    intro a ha
    rw [kChg_ne (by omega), hF a (by omega)]
  refine bl_Cb_restore_34 ⟨rfl, rfl, rfl, kFr_mono hFr (by omega) (by omega), ?_⟩
  exact CbA_upd hA hk hFr (kTxt_new w3 hT (by rw [hF _ (by omega)]; exact hx3))
