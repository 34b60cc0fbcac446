theorem txtA_k {o k : Nat} (h : k < 4) : txtA o k = some (o + 4 + 7 * k) := if_pos h
def kFz (I : kv_IM) (q : Nat) (g : Nat → Int32) (k : Nat) : kv_IM := fun a i => if a = q then (if i < k then g i else I a i) else I a i
theorem kFz_ne {I : kv_IM} {q : Nat} {g : Nat → Int32} {k a : Nat} (h : a ≠ q) : kFz I q g k a = I a := by
  funext i
  simp [kFz, h]
theorem kFz_at {I : kv_IM} {q : Nat} {g : Nat → Int32} {k i : Nat} (h : i < k) : kFz I q g k q i = g i := by simp [kFz, h]
theorem kFz_0 {I : kv_IM} {q : Nat} {g : Nat → Int32} : kFz I q g 0 = I := by
  funext a i
  simp [kFz]
theorem kFz_up {I : kv_IM} {q : Nat} {g : Nat → Int32} {k : Nat} {v : Int32} (hv : v = g k) : kv_up (kFz I q g k) q k v = kFz I q g (k + 1) := by
  funext a i
  unfold kv_up kFz
  by_cases ha : a = q
  · subst ha
    simp only [if_true]
    by_cases hi : i = k
    · subst hi
      simp [hv]
    · rw [if_neg hi]
      by_cases h2 : i < k
      · rw [if_pos h2, if_pos (by omega)]
      · rw [if_neg h2, if_neg (by omega)]
  · simp [ha]
theorem kTs_s {seed : Int32} {k : Nat} : kTs seed k * 1664525 + 1013904223 = kTs seed (k + 1) := by rw [kTs]
theorem c_Rul_sow {d : Nat} {B : kv_B} {n : Nat} {S : kv_SM} {I : kv_IM} {r : Nat} (seed : Int32) (hS : RulS S r) : kv_P y_Rul_sow d B [.ref r, .int seed] n S I (kQv (kFz I (r + 1) (kTb seed) 256)) := by
  refine kv_P.of (by decide +kernel) rfl (Nat.le_of_ble_eq_true rfl) ?_
  refine bl_Rul_sow_0 ?_
  have loop : ∀ (j k : Nat), k + j = 256 → kv_V y_Rul_sow d B (kv_PQ n S (kQv (kFz I (r + 1) (kTb seed) 256))) 0 0 n S (kFz I (r + 1) (kTb seed) k) 4 [(0, .ref r), (1, .int seed), (2, .int (kTs seed k)), (3, .int (nI k))] [] := by
    intro j
    induction j with
    | zero =>
      intro k hk
      have : k = 256 := by omega
      subst this
      refine bl_Rul_sow_4 (fun _ => ?_) (fun h => absurd (nI_le (a := 256) (b := 256) (Nat.le_refl _) (by omega)) h)
      exact bl_Rul_sow_37 ⟨rfl, rfl, rfl, rfl⟩
    | succ j ih =>
      intro k hk
      refine bl_Rul_sow_4 (fun h => absurd h (nI_ge (b := 256) (by omega) (by omega))) (fun _ => ?_)
      refine bl_Rul_sow_11 hS.1 rfl hS.2 ⟨rfl, by omega, by omega⟩ ?_
      rw [kTs_s, kFz_up (g := kTb seed) (by unfold kTb; rfl), nI_1]
      exact ih (k + 1) (by omega)
  have h := loop 256 0 (by omega)
  rw [kFz_0, show kTs seed 0 = seed by rw [kTs]] at h
  exact h
theorem c_Md_layTable {d : Nat} {B : kv_B} {n : Nat} {S : kv_SM} {I : kv_IM} {w : Nat} (seed : Int32) (h0 : S w = kO 6 (mdR w)) (h3 : S (w + 3) = kI 256) : kv_P y_Md_layTable d B [.ref w, .int seed] n S I (kQv (kFz I (w + 3) (kTb seed) 256)) := by
  refine kv_P.of (by decide +kernel) rfl (Nat.le_of_ble_eq_true rfl) ?_
  refine bl_Md_layTable_0 ?_
  have loop : ∀ (j k : Nat), k + j = 256 → kv_V y_Md_layTable d B (kv_PQ n S (kQv (kFz I (w + 3) (kTb seed) 256))) 0 0 n S (kFz I (w + 3) (kTb seed) k) 4 [(0, .ref w), (1, .int seed), (2, .int (kTs seed k)), (3, .int (nI k))] [] := by
    intro j
    induction j with
    | zero =>
      intro k hk
      have : k = 256 := by omega
      subst this
      refine bl_Md_layTable_4 (fun _ => ?_) (fun h => absurd (nI_le (a := 256) (b := 256) (Nat.le_refl _) (by omega)) h)
      exact bl_Md_layTable_37 ⟨rfl, rfl, rfl, rfl⟩
    | succ j ih =>
      intro k hk
      refine bl_Md_layTable_4 (fun h => absurd h (nI_ge (b := 256) (by omega) (by omega))) (fun _ => ?_)
      refine bl_Md_layTable_11 h0 rfl h3 ⟨rfl, by omega, by omega⟩ ?_
      rw [kTs_s, kFz_up (g := kTb seed) (by unfold kTb; rfl), nI_1]
      exact ih (k + 1) (by omega)
  have h := loop 256 0 (by omega)
  rw [kFz_0, show kTs seed 0 = seed by rw [kTs]] at h
  exact h
abbrev RuV (m lo hi b l r : Int32) : Prop := (0 ≤ m.toInt ∧ m.toInt ≤ 3) ∧ (1 ≤ lo.toInt ∧ lo.toInt ≤ 200) ∧ (lo.toInt ≤ hi.toInt ∧ hi.toInt ≤ 600) ∧ (1 ≤ b.toInt ∧ b.toInt ≤ 9) ∧ (0 ≤ l.toInt ∧ l.toInt ≤ b.toInt) ∧ (1 ≤ r.toInt ∧ r.toInt ≤ 16) ∧ lo.toInt ≤ hi.toInt - hi.toInt % r.toInt
def ruOf (m lo hi b l r : Int32) : Nat → Nat := fun j => match j with
  | 0 => tN m
  | 1 => tN lo
  | 2 => tN hi
  | 3 => tN b
  | 4 => tN l
  | _ => tN r
theorem z_most {hi r : Int32} (h1 : 0 ≤ hi.toInt) (h2 : 1 ≤ r.toInt) : (hi - (hi - hi / r * r)).toInt = hi.toInt - hi.toInt % r.toInt ∧ hi - (hi - hi / r * r) = nI (tN hi - tN hi % tN r) ∧ tN hi % tN r ≤ tN hi ∧ ((tN hi % tN r : Nat) : Int) = hi.toInt % r.toInt := by
  obtain ⟨a1, a2, a3⟩ := tN_of h1
  obtain ⟨b1, b2, b3⟩ := tN_of (t := r) (by omega)
  have hm := Nat.mod_le (tN hi) (tN r)
  have e : hi - (hi - hi / r * r) = nI (tN hi - tN hi % tN r) := by
    rw [a1, b1, pk_rem (by omega) (by omega) (by omega), pk_sub hm, tN_nI (by omega), tN_nI (by omega)]
  have e2 : ((tN hi % tN r : Nat) : Int) = hi.toInt % r.toInt := by rw [← a2, ← b2]; rfl
  refine ⟨?_, e, hm, e2⟩
  rw [e, nI_toInt (by omega)]
  omega
theorem c_Rul_fit {d : Nat} {B : kv_B} {n : Nat} {S : kv_SM} {I : kv_IM} (m lo hi b l r : Int32) : kv_P y_Rul_fit d B [.int m, .int lo, .int hi, .int b, .int l, .int r] n S I (kQi (kB (RuV m lo hi b l r)) I) := by
  have t0 : (0 : Int32).toInt = 0 := by decide
  have t1 : (1 : Int32).toInt = 1 := by decide
  have t3 : (3 : Int32).toInt = 3 := by decide
  have t9 : (9 : Int32).toInt = 9 := by decide
  have t16 : (16 : Int32).toInt = 16 := by decide
  have t200 : (200 : Int32).toInt = 200 := by decide
  have t600 : (600 : Int32).toInt = 600 := by decide
  refine kv_P.of (by decide +kernel) rfl (Nat.le_of_ble_eq_true rfl) ?_
  refine bl_Rul_fit_0 (fun h => ?_) (fun h => ?_)
  · have h := i_lt.mp h
    exact bl_Rul_fit_21 (kQi_end (kB_f (fun q => by omega)).symm)
  have g1 := i_nlt.mp h
  refine bl_Rul_fit_4 (fun h => ?_) (fun h => ?_)
  · have h := i_lt.mp h
    exact bl_Rul_fit_21 (kQi_end (kB_f (fun q => by omega)).symm)
  have g2 := i_nlt.mp h
  refine bl_Rul_fit_9 (fun h => ?_) (fun h => ?_)
  · have h := i_lt.mp h
    exact bl_Rul_fit_21 (kQi_end (kB_f (fun q => by omega)).symm)
  have g3 := i_nlt.mp h
  refine bl_Rul_fit_14 (fun h => ?_) (fun h => ?_)
  rotate_left
  · have h := i_nle.mp h
    exact bl_Rul_fit_21 (kQi_end (kB_f (fun q => by omega)).symm)
  have g4 := i_le.mp h
  refine bl_Rul_fit_23 (fun h => ?_) (fun h => ?_)
  · have h := i_lt.mp h
    exact bl_Rul_fit_46 (kQi_end (kB_f (fun q => by omega)).symm)
  have g5 := i_nlt.mp h
  refine bl_Rul_fit_28 (fun h => ?_) (fun h => ?_)
  · have h := i_lt.mp h
    exact bl_Rul_fit_46 (kQi_end (kB_f (fun q => by omega)).symm)
  have g6 := i_nlt.mp h
  refine bl_Rul_fit_35 (fun h => ?_) (fun h => ?_)
  · have h := i_lt.mp h
    exact bl_Rul_fit_46 (kQi_end (kB_f (fun q => by omega)).symm)
  have g7 := i_nlt.mp h
  refine bl_Rul_fit_40 (fun h => ?_) (fun h => ?_)
  rotate_left
  · have h := i_nle.mp h
    exact bl_Rul_fit_46 (kQi_end (kB_f (fun q => by omega)).symm)
  have g8 := i_le.mp h
  refine bl_Rul_fit_48 (fun h => ?_) (fun h => ?_)
  · have h := i_lt.mp h
    exact bl_Rul_fit_72 (kQi_end (kB_f (fun q => by omega)).symm)
  have g9 := i_nlt.mp h
  refine bl_Rul_fit_53 (fun h => ?_) (fun h => ?_)
  · have h := i_lt.mp h
    exact bl_Rul_fit_72 (kQi_end (kB_f (fun q => by omega)).symm)
  have g10 := i_nlt.mp h
  refine bl_Rul_fit_59 (fun h => ?_) (fun h => ?_)
  · have h := i_lt.mp h
    exact bl_Rul_fit_72 (kQi_end (kB_f (fun q => by omega)).symm)
  have g11 := i_nlt.mp h
  refine bl_Rul_fit_65 (fun h => ?_) (fun h => ?_)
  rotate_left
  · have h := i_nle.mp h
    exact bl_Rul_fit_72 (kQi_end (kB_f (fun q => by omega)).symm)
  have g12 := i_le.mp h
  obtain ⟨z1, -⟩ := z_most (hi := hi) (r := r) (by omega) (by omega)
  refine bl_Rul_fit_74 (fun q => by rw [q, t0] at g11; omega) (fun h => ?_) (fun h => ?_)
  · have h := i_lt.mp h
    refine bl_Rul_fit_88 (bl_Rul_fit_89 rfl (kQi_end (kB_f (fun q => ?_)).symm))
    have := q.2.2.2.2.2.2
    omega
  · have h := i_nlt.mp h
    refine bl_Rul_fit_84 (bl_Rul_fit_89 rfl (kQi_end (kB_t ?_).symm))
    exact ⟨⟨by omega, by omega⟩, ⟨by omega, by omega⟩, ⟨by omega, by omega⟩, ⟨by omega, by omega⟩, ⟨by omega, by omega⟩, ⟨by omega, by omega⟩, by omega⟩
theorem ruOf_ok {m lo hi b l r : Int32} (h : RuV m lo hi b l r) : RuOK (ruOf m lo hi b l r) := by
  obtain ⟨⟨a1, a2⟩, ⟨b1, b2⟩, ⟨c1, c2⟩, ⟨d1, d2⟩, ⟨e1, e2⟩, ⟨f1, f2⟩, g⟩ := h
  have x1 := (tN_of (t := m) (by omega)).2.1
  have x2 := (tN_of (t := lo) (by omega)).2.1
  have x3 := (tN_of (t := hi) (by omega)).2.1
  have x4 := (tN_of (t := b) (by omega)).2.1
  have x5 := (tN_of (t := l) (by omega)).2.1
  have x6 := (tN_of (t := r) (by omega)).2.1
  obtain ⟨-, -, z1, z2⟩ := z_most (hi := hi) (r := r) (by omega) (by omega)
  show tN m ≤ 3 ∧ 1 ≤ tN lo ∧ tN lo ≤ 200 ∧ tN lo ≤ tN hi ∧ tN hi ≤ 600 ∧ 1 ≤ tN b ∧ tN b ≤ 9 ∧ tN l ≤ tN b ∧ 1 ≤ tN r ∧ tN r ≤ 16 ∧ tN lo ≤ tN hi - tN hi % tN r
  refine ⟨by omega, by omega, by omega, by omega, by omega, by omega, by omega, by omega, by omega, by omega, by omega⟩
def kRu6 (I : kv_IM) (a k0 : Nat) (v1 v2 v3 v4 v5 v6 : Int32) : kv_IM := kv_up (kv_up (kv_up (kv_up (kv_up (kv_up I a k0 v1) a (k0 + 1) v2) a (k0 + 2) v3) a (k0 + 3) v4) a (k0 + 4) v5) a (k0 + 5) v6
theorem kRu6_ne {I : kv_IM} {a k0 q : Nat} {v1 v2 v3 v4 v5 v6 : Int32} (h : q ≠ a) : kRu6 I a k0 v1 v2 v3 v4 v5 v6 q = I q := by
  funext i
  simp [kRu6, kv_up, h]
theorem kRu6_o {I : kv_IM} {a k0 i : Nat} {v1 v2 v3 v4 v5 v6 : Int32} (h : i < k0 ∨ k0 + 5 < i) : kRu6 I a k0 v1 v2 v3 v4 v5 v6 a i = I a i := by
  unfold kRu6 kv_up
  simp only [if_true]
  rw [if_neg (by omega), if_neg (by omega), if_neg (by omega), if_neg (by omega), if_neg (by omega), if_neg (by omega)]
theorem kRu6_ru {I : kv_IM} {a k0 : Nat} {m lo hi b l r : Int32} (h : RuV m lo hi b l r) : RuI (kRu6 I a k0 m lo hi b l r) a k0 (ruOf m lo hi b l r) := by
  obtain ⟨⟨a1, a2⟩, ⟨b1, b2⟩, ⟨c1, c2⟩, ⟨d1, d2⟩, ⟨e1, e2⟩, ⟨f1, f2⟩, g⟩ := h
  have x1 := (tN_of (t := m) (by omega)).1
  have x2 := (tN_of (t := lo) (by omega)).1
  have x3 := (tN_of (t := hi) (by omega)).1
  have x4 := (tN_of (t := b) (by omega)).1
  have x5 := (tN_of (t := l) (by omega)).1
  have x6 := (tN_of (t := r) (by omega)).1
  intro j hj
  rcases (show j = 0 ∨ j = 1 ∨ j = 2 ∨ j = 3 ∨ j = 4 ∨ j = 5 by omega) with rfl | rfl | rfl | rfl | rfl | rfl
  · show _ = nI (tN m); rw [← x1]; simp [kRu6, kv_up]
  · show _ = nI (tN lo); rw [← x2]; simp [kRu6, kv_up]
  · show _ = nI (tN hi); rw [← x3]; simp [kRu6, kv_up]
  · show _ = nI (tN b); rw [← x4]; simp [kRu6, kv_up]
  · show _ = nI (tN l); rw [← x5]; simp [kRu6, kv_up]
  · show _ = nI (tN r); rw [← x6]; simp [kRu6, kv_up]
theorem c_Rul_take {d : Nat} {B : kv_B} {n : Nat} {S : kv_SM} {I : kv_IM} {r : Nat} (v1 v2 v3 v4 v5 v6 : Int32) (hS : RulS S r) : kv_P y_Rul_take d B [.ref r, .int v1, .int v2, .int v3, .int v4, .int v5, .int v6] n S I (kQv (kRu6 I r 1 v1 v2 v3 v4 v5 v6)) := by
  refine kv_P.of (by decide +kernel) rfl (Nat.le_of_ble_eq_true rfl) ?_
  exact bl_Rul_take_0 hS.1 ⟨rfl, rfl, rfl, rfl⟩
def kTxs (I : kv_IM) (x : Nat) (f : Nat → Nat) (len : Nat) : Prop := len ≤ 1500 ∧ I x 1 = nI len ∧ kTx I (x + 2) 0 f len ∧ I (x + 3) 0 = 0
theorem kTxt.weak {I : kv_IM} {x : Nat} {ru : Nat → Nat} {tab : Nat → Int32} {f : Nat → Nat} {len : Nat} (h : kTxt I x ru tab f len) : kTxs I x f len := ⟨h.1, h.2.1, h.2.2.1, h.2.2.2.1⟩
theorem c_Cb_forgetAllCuts {d : Nat} {B : kv_B} {n : Nat} {S : kv_SM} {I : kv_IM} (hd : 1 ≤ d) {o : Nat} {len : Nat → Nat} {tb : Nat → Nat → Nat} (hS : CbS S o) (hT : ∀ t, t < 4 → kTxs I (o + 4 + 7 * t) (tb t) (len t)) :
    kv_P y_Cb_forgetAllCuts d B [.ref o] n S I (fun v J => v = none ∧ kFr (o + 4) (o + 31) I J ∧ ∀ t, t < 4 → ∀ (ru : Nat → Nat) (tab : Nat → Int32), kTxt J (o + 4 + 7 * t) ru tab (tb t) (len t)) := by
  obtain ⟨s0, s1, s2, s3, s4⟩ := id hS
  refine kv_P.of (by decide +kernel) rfl (Nat.le_of_ble_eq_true rfl) ?_
  refine bl_Cb_forgetAllCuts_0 ?_
  have loop : ∀ (j k : Nat) (J : kv_IM), k + j = 4 → kFr (o + 4) (o + 31) I J → (∀ t, t < 4 → kTxs J (o + 4 + 7 * t) (tb t) (len t)) → (∀ t, t < k → ∀ (ru : Nat → Nat) (tab : Nat → Int32), kTxt J (o + 4 + 7 * t) ru tab (tb t) (len t)) → kv_V y_Cb_forgetAllCuts d B (kv_PQ n S (fun v J => v = none ∧ kFr (o + 4) (o + 31) I J ∧ ∀ t, t < 4 → ∀ (ru : Nat → Nat) (tab : Nat → Int32), kTxt J (o + 4 + 7 * t) ru tab (tb t) (len t))) 0 0 n S J 2 [(0, .ref o), (1, .int (nI k))] [] := by
    intro j
    induction j with
    | zero =>
      intro k J hk hF hW hX
      have : k = 4 := by omega
      subst this
      refine bl_Cb_forgetAllCuts_2 (fun _ => ?_) (fun h => absurd (nI_le (a := 4) (b := 4) (Nat.le_refl _) (by omega)) h)
      exact bl_Cb_forgetAllCuts_22 ⟨rfl, rfl, rfl, hF, hX⟩
    | succ j ih =>
      intro k J hk hF hW hX
      refine bl_Cb_forgetAllCuts_2 (fun h => absurd h (nI_ge (b := 4) (by omega) (by omega))) (fun _ => ?_)
      have sk := s3 k (by omega)
      refine bp_Cb_forgetAllCuts_7 (dc := 0) s0 rfl s2 ⟨rfl, by omega, by omega⟩ (txtA_k (by omega)) sk.1 (c_Txt_forgetCuts sk) (by omega) (fun v K hv => ?_)
      obtain ⟨rfl, rfl⟩ := hv
      refine bl_Cb_forgetAllCuts_16 ?_
      rw [nI_1]
      have eo : ∀ a, a ≠ o + 4 + 7 * k → kv_up (kv_up J (o + 4 + 7 * k) 2 0) (o + 4 + 7 * k) 3 0 a = J a := by
        intro a ha
        funext i
        simp [kv_up, ha]
      have e1 : kv_up (kv_up J (o + 4 + 7 * k) 2 0) (o + 4 + 7 * k) 3 0 (o + 4 + 7 * k) 1 = J (o + 4 + 7 * k) 1 := by simp [kv_up]
      have hWk := hW k (by omega)
      have hW' : ∀ t, t < 4 → kTxs (kv_up (kv_up J (o + 4 + 7 * k) 2 0) (o + 4 + 7 * k) 3 0) (o + 4 + 7 * t) (tb t) (len t) := by
        intro t ht
        obtain ⟨w1, w2, w3, w4⟩ := hW t ht
        refine ⟨w1, ?_, kTx_of w3 (eo _ (by omega)), by rw [eo _ (by omega)]; exact w4⟩
        by_cases e : t = k
        · subst e; rw [e1]; exact w2
        · rw [eo _ (by omega)]; exact w2
      refine ih (k + 1) _ (by omega) (fun a ha => by rw [eo a (by omega)]; exact hF a ha) hW' (fun t ht ru tab => ?_)
      by_cases e : t = k
      · subst e
        obtain ⟨w1, w2, w3, w4⟩ := hW' t (by omega)
        exact ⟨w1, w2, w3, w4, Or.inl ⟨by simp [kv_up], by simp [kv_up]⟩⟩
      · exact kTxt_of (hX t (by omega) ru tab) (fun a b1 b2 => eo a (by omega))
  exact loop 4 0 I (by omega) (fun _ _ => rfl) hT (fun t ht => absurd ht (by omega))
theorem c_Cb_seed {d : Nat} {B : kv_B} {n : Nat} {S : kv_SM} {I : kv_IM} (hd : 2 ≤ d) {o : Nat} {ru : Nat → Nat} {tab : Nat → Int32} {len : Nat → Nat} {tb : Nat → Nat → Nat} (seed : Int32) (hS : CbS S o) (hA : CbA I o ru tab len tb) :
    kv_P y_Cb_seed d B [.ref o, .int seed] n S I (fun v J => v = some (.int 1) ∧ kFr o (o + 31) I J ∧ CbA J o ru (kTb seed) len tb) := by
  obtain ⟨s0, s1, s2, s3, s4⟩ := id hS
  obtain ⟨a1, a2, a3⟩ := id hA
  refine kv_P.of (by decide +kernel) rfl (Nat.le_of_ble_eq_true rfl) ?_
  refine bp_Cb_seed_0 (dc := 0) s0 rfl s1.1 (c_Rul_sow seed s1) (by omega) (fun v J hv => ?_)
  obtain ⟨rfl, rfl⟩ := hv
  refine bp_Cb_seed_8 (dc := 1) s0 (c_Cb_forgetAllCuts (len := len) (tb := tb) (by omega) hS (fun t ht => ?_)) (by omega) (fun v J hv => ?_)
  · exact (kTxt_of (a3 t ht) (fun a b1 b2 => kFz_ne (by omega))).weak
  · obtain ⟨rfl, hF, hX⟩ := hv
    refine bl_Cb_seed_12 ⟨rfl, rfl, rfl, fun a ha => ?_, RuI_of a1 ?_, fun i hi => ?_, fun t ht => hX t ht _ _⟩
    · rw [hF a (by omega), kFz_ne (by omega)]
    · rw [hF _ (by omega), kFz_ne (by omega)]
    · rw [hF _ (by omega)]
      exact kFz_at hi
theorem c_Cb_rule {d : Nat} {B : kv_B} {n : Nat} {S : kv_SM} {I : kv_IM} (hd : 2 ≤ d) {o : Nat} {ru : Nat → Nat} {tab : Nat → Int32} {len : Nat → Nat} {tb : Nat → Nat → Nat} (m lo hi b l r : Int32) (hS : CbS S o) (hA : CbA I o ru tab len tb) :
    kv_P y_Cb_rule d B [.ref o, .int m, .int lo, .int hi, .int b, .int l, .int r] n S I (fun v J => v = some (.int (if RuV m lo hi b l r then 1 else -1)) ∧ kFr o (o + 31) I J ∧ CbA J o (if RuV m lo hi b l r then ruOf m lo hi b l r else ru) tab len tb) := by
  obtain ⟨s0, s1, s2, s3, s4⟩ := id hS
  obtain ⟨a1, a2, a3⟩ := id hA
  refine kv_P.of (by decide +kernel) rfl (Nat.le_of_ble_eq_true rfl) ?_
  refine bp_Cb_rule_0 (dc := 0) (c_Rul_fit m lo hi b l r) (by omega) (fun v J hv => ?_)
  obtain ⟨rfl, rfl⟩ := hv
  refine bl_Cb_rule_12 (fun h => ?_) (fun h => ?_)
  · have hv := Classical.not_not.mp (fun q => h (kB_e0.mpr q))
    rw [if_pos hv, if_pos hv]
    refine bp_Cb_rule_17 (dc := 0) s0 rfl s1.1 (c_Rul_take m lo hi b l r s1) (by omega) (fun v J hv => ?_)
    obtain ⟨rfl, rfl⟩ := hv
    refine bp_Cb_rule_33 (dc := 1) s0 (c_Cb_forgetAllCuts (len := len) (tb := tb) (by omega) hS (fun t ht => ?_)) (by omega) (fun v J hv => ?_)
    · exact (kTxt_of (a3 t ht) (fun a b1 b2 => kRu6_ne (by omega))).weak
    · obtain ⟨rfl, hF, hX⟩ := hv
      refine bl_Cb_rule_37 ⟨rfl, rfl, rfl, fun a ha => ?_, RuI_of (kRu6_ru (I := I) hv) ?_, fun i hi => ?_, fun t ht => hX t ht _ _⟩
      · rw [hF a (by omega), kRu6_ne (by omega)]
      · rw [hF _ (by omega)]
      · rw [hF _ (by omega), kRu6_ne (by omega)]
        exact a2 i hi
  · have hv := kB_e0.mp h
    rw [if_neg hv, if_neg hv]
    exact bl_Cb_rule_15 ⟨rfl, rfl, rfl, fun _ _ => rfl, hA⟩
