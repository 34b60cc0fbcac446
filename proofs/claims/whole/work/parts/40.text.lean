abbrev kT (t : Int32) : Prop := 0 ≤ t.toInt ∧ t.toInt < 4
def tN (t : Int32) : Nat := t.toInt.toNat
theorem tN_of {t : Int32} (h : 0 ≤ t.toInt) : t = nI (tN t) ∧ (tN t : Int) = t.toInt ∧ tN t < 2 ^ 31 := by
  have h0 : ¬ t < 0 := by rw [i_lt]; simpa using h
  obtain ⟨j, hj, e⟩ := nI_of h0
  have hJ := nI_toInt hj
  have : tN t = j := by
    unfold tN
    rw [e, hJ]
    simp
  rw [this]
  exact ⟨e, by rw [e, hJ], hj⟩
theorem tN_nI {k : Nat} (h : k < 2 ^ 31) : tN (nI k) = k := by
  unfold tN
  rw [nI_toInt h]
  simp
def kU {α : Type} (f : Nat → α) (k : Nat) (v : α) : Nat → α := fun j => if j = k then v else f j
theorem kU_s {α : Type} {f : Nat → α} {k : Nat} {v : α} : kU f k v k = v := by simp [kU]
theorem kU_n {α : Type} {f : Nat → α} {k j : Nat} {v : α} (h : j ≠ k) : kU f k v j = f j := by simp [kU, h]
def kIns (f : Nat → Nat) (a x : Nat) : Nat → Nat := fun i => if i < a then f i else if i = a then x else f (i - 1)
def kRem (f : Nat → Nat) (a m : Nat) : Nat → Nat := fun i => if i < a then f i else f (i + m)
def kLcg (seed : Int32) : Nat → Int32
  | 0 => seed
  | k + 1 => kLcg seed k * 1103515245 + 12345
theorem kLcg_s {seed : Int32} {k : Nat} : kLcg seed k * 1103515245 + 12345 = kLcg seed (k + 1) := by rw [kLcg]
def kFb (seed : Int32) (span k : Nat) : Nat := (kLcg seed (k + 1)).toBitVec.toNat / 65536 % span
def kApp (f : Nat → Nat) (l : Nat) (seed : Int32) (span : Nat) : Nat → Nat := fun i => if i < l then f i else kFb seed span (i - l)
def kTs (seed : Int32) : Nat → Int32
  | 0 => seed
  | k + 1 => kTs seed k * 1664525 + 1013904223
def kTb (seed : Int32) (i : Nat) : Int32 := kTs seed (i + 1) ^^^ ((Int32.toUInt32 (kTs seed (i + 1)) >>> (Int32.toUInt32 16 &&& Int32.toUInt32 31)).toInt32)
def CbA (I : kv_IM) (o : Nat) (ru : Nat → Nat) (tab : Nat → Int32) (len : Nat → Nat) (tb : Nat → Nat → Nat) : Prop := RuI I (o + 1) 1 ru ∧ (∀ i, i < 256 → I (o + 2) i = tab i) ∧ ∀ t, t < 4 → kTxt I (o + 4 + 7 * t) ru tab (tb t) (len t)
theorem CbA_of {I J : kv_IM} {o : Nat} {ru : Nat → Nat} {tab : Nat → Int32} {len : Nat → Nat} {tb : Nat → Nat → Nat} (h : CbA I o ru tab len tb) (e : ∀ a, o ≤ a → a ≤ o + 31 → J a = I a) : CbA J o ru tab len tb := by
  obtain ⟨h1, h2, h3⟩ := h
  refine ⟨RuI_of h1 (e _ (by omega) (by omega)), fun i hi => by rw [e (o + 2) (by omega) (by omega)]; exact h2 i hi, fun t ht => kTxt_of (h3 t ht) (fun a b1 b2 => e a (by omega) (by omega))⟩
theorem CbA_upd {I J : kv_IM} {o : Nat} {ru : Nat → Nat} {tab : Nat → Int32} {len : Nat → Nat} {tb : Nat → Nat → Nat} {k l' : Nat} {f' : Nat → Nat} (h : CbA I o ru tab len tb) (hk : k < 4) (hF : kFr (o + 4 + 7 * k) (o + 4 + 7 * k + 6) I J) (hT : kTxt J (o + 4 + 7 * k) ru tab f' l') : CbA J o ru tab (kU len k l') (kU tb k f') := by
  obtain ⟨h1, h2, h3⟩ := h
  refine ⟨RuI_of h1 (hF _ (by omega)), fun i hi => by rw [hF (o + 2) (by omega)]; exact h2 i hi, fun t ht => ?_⟩
  by_cases e : t = k
  · subst e
    rw [kU_s, kU_s]
    exact hT
  · rw [kU_n e, kU_n e]
    exact kTxt_of (h3 t ht) (fun a b1 b2 => hF a (by omega))
theorem kU_id {α : Type} {f : Nat → α} {k : Nat} : kU f k (f k) = f := by
  funext j
  unfold kU
  split
  · rename_i h; rw [h]
  · rfl
theorem CbA_same {I J : kv_IM} {o : Nat} {ru : Nat → Nat} {tab : Nat → Int32} {len : Nat → Nat} {tb : Nat → Nat → Nat} {k : Nat} (h : CbA I o ru tab len tb) (hk : k < 4) (hF : kFr (o + 4 + 7 * k) (o + 4 + 7 * k + 6) I J) (hT : kTxt J (o + 4 + 7 * k) ru tab (tb k) (len k)) : CbA J o ru tab len tb := by
  have := CbA_upd h hk hF hT
  rwa [kU_id, kU_id] at this
def kChg (I : kv_IM) (x : Nat) (v : Int32) : kv_IM := kv_up (kv_up (kv_up I x 1 v) x 2 0) x 3 0
theorem kChg_ne {I : kv_IM} {x a : Nat} {v : Int32} (h : a ≠ x) : kChg I x v a = I a := by
  funext i
  simp [kChg, kv_up, h]
theorem kTxt_new {I : kv_IM} {x l : Nat} {f : Nat → Nat} {ru : Nat → Nat} {tab : Nat → Int32} (hl : l ≤ 1500) (hT : kTx I (x + 2) 0 f l) (h0 : I (x + 3) 0 = 0) : kTxt (kChg I x (nI l)) x ru tab f l := by
  refine ⟨hl, by simp [kChg, kv_up], kTx_of hT (kChg_ne (by omega)), by rw [kChg_ne (by omega)]; exact h0, Or.inl ⟨by simp [kChg, kv_up], by simp [kChg, kv_up]⟩⟩
theorem c_Txt_changedTo {d : Nat} {B : kv_B} {n : Nat} {S : kv_SM} {I : kv_IM} (hd : 1 ≤ d) {x : Nat} (v : Int32) (hS : TxtS S x) : kv_P y_Txt_changedTo d B [.ref x, .int v] n S I (kQi v (kChg I x v)) := by
  refine kv_P.of (by decide +kernel) rfl (Nat.le_of_ble_eq_true rfl) ?_
  refine bp_Txt_changedTo_0 (dc := 0) hS.1 (c_Txt_forgetCuts hS) (by omega) (fun w J hv => ?_)
  obtain ⟨rfl, rfl⟩ := hv
  refine bl_Txt_changedTo_9 hS.1 ⟨rfl, rfl, ?_, rfl⟩
  simp [kv_up]
theorem z_nI (z : Int32) : z = nI z.toBitVec.toNat := by
  apply Int32.toBitVec_inj.mp
  show z.toBitVec = (Int32.ofNat z.toBitVec.toNat).toBitVec
  simp
theorem z_sh16 (x : Int32) : (Int32.toUInt32 x >>> (Int32.toUInt32 16 &&& Int32.toUInt32 31)).toInt32 = nI (x.toBitVec.toNat / 65536) := by
  have h := pk_ushr x 16 16 (by decide)
  rw [z_nI ((Int32.toUInt32 x >>> (Int32.toUInt32 16 &&& Int32.toUInt32 31)).toInt32), h]
theorem c_Txt_put {d : Nat} {B : kv_B} {n : Nat} {S : kv_SM} {I : kv_IM} (hd : 2 ≤ d) {x len a b : Nat} {f : Nat → Nat} {ru : Nat → Nat} {tab : Nat → Int32} (hS : TxtS S x) (hT : kTxt I x ru tab f len) (ha : a ≤ len) (hb : b < 256) :
    kv_P y_Txt_put d B [.ref x, .int (nI a), .int (nI b)] n S I (fun v J => kFr x (x + 6) I J ∧ v = some (.int (if len = 1500 then -2 else nI (len + 1))) ∧ if len = 1500 then kTxt J x ru tab f len else kTxt J x ru tab (kIns f a b) (len + 1)) := by
  obtain ⟨s0, hR⟩ := id hS
  obtain ⟨r0, r1, -⟩ := id hR
  obtain ⟨h1, h2, h3, h4, h5⟩ := id hT
  refine kv_P.of (by decide +kernel) rfl (Nat.le_of_ble_eq_true rfl) ?_
  refine bl_Txt_put_0 s0 (fun hl => ?_) (fun hl => ?_)
  · rw [h2, show (1500 : Int32) = nI 1500 from rfl, nI_ltI (by omega) (by omega)] at hl
    have hne : ¬ len = 1500 := by omega
    generalize hJ : kv_up (kv_cp I (x + 2) (x + 2) a (a + 1) (len - a)) (x + 2) a (nI b) = J
    have eo : ∀ q, q ≠ x + 2 → J q = I q := by
      intro q hq
      rw [← hJ]
      funext i
      simp [kv_up, kv_cp, hq]
    refine bp_Txt_put_13 (dc := 1) (by omega) s0 rfl r0 rfl r1 (sp6 := a) (dp6 := a + 1) (N6 := len - a) ⟨⟨by omega, by omega, by omega, by omega⟩, ⟨rfl, nI_1 a, by rw [h2]; exact pk_sub ha⟩, by omega, by omega⟩ ⟨rfl, by omega, by omega⟩ (by
      rw [hJ, eo x (by omega), h2, nI_1]
      exact c_Txt_changedTo (by omega) _ hS) (by omega) (fun w K hv => ?_)
    obtain ⟨rfl, rfl⟩ := hv
    refine bl_Txt_put_60 ⟨rfl, rfl, ?_, by rw [if_neg hne], ?_⟩
    · intro q hq
      rw [kChg_ne (by omega), eo q (by omega)]
    · rw [if_neg hne]
      refine kTxt_new (by omega) (fun i hi => ?_) (by rw [eo (x + 3) (by omega)]; exact h4)
      rw [Nat.zero_add, ← hJ]
      unfold kIns
      by_cases e1 : i < a
      · have t := h3 i (by omega)
        rw [Nat.zero_add] at t
        rw [if_pos e1]
        have : kv_up (kv_cp I (x + 2) (x + 2) a (a + 1) (len - a)) (x + 2) a (nI b) (x + 2) i = I (x + 2) i := by
          unfold kv_up kv_cp va_cpy
          rw [if_pos rfl, if_neg (by omega), if_pos rfl, if_neg (by omega)]
        rw [this]
        exact t
      · rw [if_neg e1]
        by_cases e2 : i = a
        · subst e2
          rw [if_pos rfl]
          refine ⟨?_, hb⟩
          simp [kv_up]
        · rw [if_neg e2]
          have t := h3 (i - 1) (by omega)
          rw [Nat.zero_add] at t
          have : kv_up (kv_cp I (x + 2) (x + 2) a (a + 1) (len - a)) (x + 2) a (nI b) (x + 2) i = I (x + 2) (i - 1) := by
            unfold kv_up kv_cp va_cpy
            rw [if_pos rfl, if_neg e2, if_pos rfl, if_pos (by omega)]
            congr 1
            omega
          rw [this]
          exact t
  · rw [h2, show (1500 : Int32) = nI 1500 from rfl, nI_ltI (by omega) (by omega)] at hl
    have he : len = 1500 := by omega
    refine bl_Txt_put_10 ⟨rfl, rfl, fun _ _ => rfl, by rw [if_pos he], ?_⟩
    rw [if_pos he]
    exact hT
theorem c_Txt_sow {d : Nat} {B : kv_B} {n : Nat} {S : kv_SM} {I : kv_IM} (hd : 2 ≤ d) {x len m sp : Nat} {f : Nat → Nat} {ru : Nat → Nat} {tab : Nat → Int32} (seed : Int32) (hS : TxtS S x) (hT : kTxt I x ru tab f len) (hm : 1 ≤ m) (hm2 : m ≤ 400) (hs : 1 ≤ sp) (hs2 : sp ≤ 256) :
    kv_P y_Txt_sow d B [.ref x, .int (nI m), .int seed, .int (nI sp)] n S I (fun v J => kFr x (x + 6) I J ∧ v = some (.int (if 1500 < len + m then -2 else nI (len + m))) ∧ if 1500 < len + m then kTxt J x ru tab f len else kTxt J x ru tab (kApp f len seed sp) (len + m)) := by
  obtain ⟨s0, hR⟩ := id hS
  obtain ⟨r0, r1, -⟩ := id hR
  obtain ⟨h1, h2, h3, h4, h5⟩ := id hT
  have e15 : (1500 : Int32) - nI len = nI (1500 - len) := pk_sub (a := 1500) h1
  refine kv_P.of (by decide +kernel) rfl (Nat.le_of_ble_eq_true rfl) ?_
  refine bl_Txt_sow_0 s0 (fun hl => ?_) (fun hl => ?_)
  · rw [h2, e15, nI_leI (by omega) (by omega)] at hl
    have hne : ¬ 1500 < len + m := by omega
    refine bl_Txt_sow_15 ?_
    have loop : ∀ (j k : Nat) (J : kv_IM), k + j = m → (∀ q, q ≠ x + 2 → J q = I q) → kTx J (x + 2) 0 (kApp f len seed sp) (len + k) → kv_V y_Txt_sow d B (kv_PQ n S (fun v J => kFr x (x + 6) I J ∧ v = some (.int (if 1500 < len + m then -2 else nI (len + m))) ∧ if 1500 < len + m then kTxt J x ru tab f len else kTxt J x ru tab (kApp f len seed sp) (len + m))) 0 0 n S J 21 [(0, .ref x), (1, .int (nI m)), (2, .int seed), (3, .int (nI sp)), (4, .int (kLcg seed k)), (5, .int (nI k))] [] := by
      intro j
      induction j with
      | zero =>
        intro k J hk hF hX
        have hkm : k = m := by omega
        subst hkm
        refine bl_Txt_sow_21 (fun _ => ?_) (fun h => absurd (nI_le (Nat.le_refl _) (by omega)) h)
        refine bp_Txt_sow_66 (dc := 1) s0 (by
          rw [hF x (by omega), h2, nI_add]
          exact c_Txt_changedTo (by omega) _ hS) (by omega) (fun w K hv => ?_)
        obtain ⟨rfl, rfl⟩ := hv
        refine bl_Txt_sow_76 ⟨rfl, rfl, ?_, by rw [if_neg hne], ?_⟩
        · intro q hq
          rw [kChg_ne (by omega), hF q (by omega)]
        · rw [if_neg hne]
          exact kTxt_new (by omega) hX (by rw [hF (x + 3) (by omega)]; exact h4)
      | succ j ih =>
        intro k J hk hF hX
        refine bl_Txt_sow_21 (fun h => absurd h (nI_ge (by omega) (by omega))) (fun _ => ?_)
        refine bl_Txt_sow_27 s0 rfl r0 rfl (nI_ne0 (by omega) (by omega)) r1 (j7 := len + k) ⟨by rw [hF x (by omega), h2, nI_add], by omega, by omega⟩ ?_
        rw [kLcg_s, z_sh16]
        have hlt : (kLcg seed (k + 1)).toBitVec.toNat / 65536 < 65536 := by
          have := (kLcg seed (k + 1)).toBitVec.isLt
          omega
        rw [pk_rem (by omega) (by omega) (by omega), nI_1]
        refine ih (k + 1) _ (by omega) (fun q hq => ?_) (fun i hi => ?_)
        · rw [← hF q hq]
          funext z
          simp [kv_up, hq]
        · rw [Nat.zero_add]
          by_cases e : i = len + k
          · subst e
            have e2 : kApp f len seed sp (len + k) = (kLcg seed (k + 1)).toBitVec.toNat / 65536 % sp := by
              unfold kApp kFb
              rw [if_neg (by omega), Nat.add_sub_cancel_left]
            rw [e2]
            refine ⟨by simp [kv_up], ?_⟩
            have := Nat.mod_lt ((kLcg seed (k + 1)).toBitVec.toNat / 65536) (show 0 < sp by omega)
            omega
          · have t := hX i (by omega)
            rw [Nat.zero_add] at t
            have : ∀ v, kv_up J (x + 2) (len + k) v (x + 2) i = J (x + 2) i := by
              intro v
              unfold kv_up
              rw [if_pos rfl, if_neg e]
            rw [this]
            exact t
    refine loop m 0 I (by omega) (fun _ _ => rfl) (fun i hi => ?_)
    have e : kApp f len seed sp i = f i := by
      unfold kApp
      rw [if_pos (by omega)]
    rw [e]
    exact h3 i (by omega)
  · rw [h2, e15, nI_leI (by omega) (by omega)] at hl
    have he : 1500 < len + m := by omega
    refine bl_Txt_sow_12 ⟨rfl, rfl, fun _ _ => rfl, by rw [if_pos he], ?_⟩
    rw [if_pos he]
    exact hT
theorem c_Txt_take {d : Nat} {B : kv_B} {n : Nat} {S : kv_SM} {I : kv_IM} (hd : 2 ≤ d) {x len a m : Nat} {f : Nat → Nat} {ru : Nat → Nat} {tab : Nat → Int32} (hS : TxtS S x) (hT : kTxt I x ru tab f len) (ha : a + m ≤ len) :
    kv_P y_Txt_take d B [.ref x, .int (nI a), .int (nI m)] n S I (fun v J => kFr x (x + 6) I J ∧ v = some (.int (nI (len - m))) ∧ kTxt J x ru tab (kRem f a m) (len - m)) := by
  obtain ⟨s0, hR⟩ := id hS
  obtain ⟨r0, r1, -⟩ := id hR
  obtain ⟨h1, h2, h3, h4, h5⟩ := id hT
  refine kv_P.of (by decide +kernel) rfl (Nat.le_of_ble_eq_true rfl) ?_
  generalize hJ : kv_cp I (x + 2) (x + 2) (a + m) a (len - a - m) = J
  have eo : ∀ q, q ≠ x + 2 → J q = I q := by
    intro q hq
    rw [← hJ]
    funext i
    simp [kv_cp, hq]
  refine bp_Txt_take_0 (dc := 1) (by omega) s0 rfl r0 rfl r1 (sp6 := a + m) (dp6 := a) (N6 := len - a - m) ⟨⟨by omega, by omega, by omega, by omega⟩, ⟨nI_add _ _, rfl, by rw [h2, pk_sub (by omega), pk_sub (by omega)]⟩, by omega, by omega⟩ (by
    rw [hJ, eo x (by omega), h2, pk_sub (by omega)]
    exact c_Txt_changedTo (by omega) _ hS) (by omega) (fun w K hv => ?_)
  obtain ⟨rfl, rfl⟩ := hv
  refine bl_Txt_take_39 ⟨rfl, rfl, ?_, rfl, ?_⟩
  · intro q hq
    rw [kChg_ne (by omega), eo q (by omega)]
  · refine kTxt_new (by omega) (fun i hi => ?_) (by rw [eo (x + 3) (by omega)]; exact h4)
    rw [Nat.zero_add, ← hJ]
    unfold kRem
    by_cases e1 : i < a
    · have t := h3 i (by omega)
      rw [Nat.zero_add] at t
      rw [if_pos e1]
      have : kv_cp I (x + 2) (x + 2) (a + m) a (len - a - m) (x + 2) i = I (x + 2) i := by
        unfold kv_cp va_cpy
        rw [if_pos rfl, if_neg (by omega)]
      rw [this]
      exact t
    · rw [if_neg e1]
      have t := h3 (i + m) (by omega)
      rw [Nat.zero_add] at t
      have : kv_cp I (x + 2) (x + 2) (a + m) a (len - a - m) (x + 2) i = I (x + 2) (i + m) := by
        unfold kv_cp va_cpy
        rw [if_pos rfl, if_pos (by omega)]
        congr 1
        omega
      rw [this]
      exact t
theorem c_Txt_become {d : Nat} {B : kv_B} {n : Nat} {S : kv_SM} {I : kv_IM} (hd : 2 ≤ d) {x z len lz : Nat} {f g : Nat → Nat} {ru : Nat → Nat} {tab : Nat → Int32} (hS : TxtS S x) (hZ : TxtS S z) (hxz : x = z ∨ x + 6 < z ∨ z + 6 < x) (hT : kTxt I x ru tab f len) (hU : kTxt I z ru tab g lz) :
    kv_P y_Txt_become d B [.ref x, .ref z] n S I (fun v J => kFr x (x + 6) I J ∧ v = some (.int (nI lz)) ∧ kTxt J x ru tab g lz) := by
  obtain ⟨s0, hR⟩ := id hS
  obtain ⟨r0, r1, -⟩ := id hR
  obtain ⟨s0', hR'⟩ := id hZ
  obtain ⟨r0', r1', -⟩ := id hR'
  obtain ⟨h1, h2, h3, h4, h5⟩ := id hT
  obtain ⟨g1, g2, g3, g4, g5⟩ := id hU
  refine kv_P.of (by decide +kernel) rfl (Nat.le_of_ble_eq_true rfl) ?_
  generalize hJ : kv_cp I (z + 2) (x + 2) 0 0 lz = J
  have eo : ∀ q, q ≠ x + 2 → J q = I q := by
    intro q hq
    rw [← hJ]
    funext i
    simp [kv_cp, hq]
  refine bp_Txt_become_0 (dc := 1) (by omega) s0' rfl r0' rfl s0 rfl r0 rfl r1' r1 (sp11 := 0) (dp11 := 0) (N11 := lz) ⟨⟨by omega, by omega, by omega, by omega⟩, ⟨rfl, rfl, g2⟩, by omega, by omega⟩ (by
    rw [hJ, eo z (by omega), g2]
    exact c_Txt_changedTo (by omega) _ hS) (by omega) (fun w K hv => ?_)
  obtain ⟨rfl, rfl⟩ := hv
  refine bl_Txt_become_31 ⟨rfl, rfl, ?_, rfl, ?_⟩
  · intro q hq
    rw [kChg_ne (by omega), eo q (by omega)]
  · refine kTxt_new g1 (fun i hi => ?_) (by rw [eo (x + 3) (by omega)]; exact h4)
    have t := g3 i hi
    rw [Nat.zero_add] at t ⊢
    rw [← hJ]
    have : kv_cp I (z + 2) (x + 2) 0 0 lz (x + 2) i = I (z + 2) i := by
      unfold kv_cp va_cpy
      rw [if_pos rfl, if_pos (by omega)]
      congr 1
      omega
    rw [this]
    exact t
