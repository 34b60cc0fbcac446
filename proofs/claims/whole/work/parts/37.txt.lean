theorem kNx_tab {m : Nat} {tab tab' : Nat → Int32} {f : Nat → Nat} {st n len : Nat} {h : Int32} (ht : ∀ i, i < 256 → tab i = tab' i) (hf : ∀ i, i < len → f i < 256) (h1 : 1 ≤ n) (h2 : st + n ≤ len) : kNx m tab f st n h = kNx m tab' f st n h := by
  have e1 := ht _ (hf (st + n - 1) (by omega))
  have e2 := ht _ (hf (st + n - 17) (by omega))
  unfold kNx
  rw [e1, e2]
theorem kCut_tab {ru : Nat → Nat} {tab tab' : Nat → Int32} {f : Nat → Nat} {st len : Nat} (ht : ∀ i, i < 256 → tab i = tab' i) (hf : ∀ i, i < len → f i < 256) : ∀ (k n : Nat) (h : Int32) (oth : Nat), 1 ≤ n → kCut ru tab f st len k n h oth = kCut ru tab' f st len k n h oth
  | 0, _, _, _, _ => rfl
  | k + 1, n, h, oth, h1 => by
    rw [kCut, kCut]
    by_cases hj : st + n ≤ len
    · rw [if_pos hj, if_pos hj, kNx_tab ht hf h1 hj, kCut_tab ht hf k (n + 1) _ _ (by omega), kCut_tab ht hf k (n + 1) _ _ (by omega)]
    · rw [if_neg hj, if_neg hj]
theorem kPos_tab {ru : Nat → Nat} {tab tab' : Nat → Int32} {f : Nat → Nat} {len : Nat} (ht : ∀ i, i < 256 → tab i = tab' i) (hf : ∀ i, i < len → f i < 256) : ∀ k, kPos ru tab f len k = kPos ru tab' f len k
  | 0 => rfl
  | k + 1 => by
    rw [kPos, kPos, kPos_tab ht hf k]
    unfold kLen
    rw [kCut_tab ht hf _ _ _ _ (by omega)]
theorem kPos_tabF {ru : Nat → Nat} {tab tab' : Nat → Int32} {f : Nat → Nat} {len : Nat} (ht : ∀ i, i < 256 → tab i = tab' i) (hf : ∀ i, i < len → f i < 256) : kPos ru tab f len = kPos ru tab' f len := funext (kPos_tab ht hf)
theorem kCnt_tab {ru : Nat → Nat} {tab tab' : Nat → Int32} {f : Nat → Nat} {len : Nat} (ht : ∀ i, i < 256 → tab i = tab' i) (hf : ∀ i, i < len → f i < 256) : kCnt ru tab f len = kCnt ru tab' f len := by
  unfold kCnt
  have : ∀ j k, kCn ru tab f len j k = kCn ru tab' f len j k := by
    intro j
    induction j with
    | zero => intro k; rfl
    | succ j ih =>
      intro k
      rw [kCn, kCn, kPos_tab ht hf k, ih]
  exact this _ _
def kTxt (I : kv_IM) (x : Nat) (ru : Nat → Nat) (tab : Nat → Int32) (f : Nat → Nat) (len : Nat) : Prop :=
  len ≤ 1500 ∧ I x 1 = nI len ∧ kTx I (x + 2) 0 f len ∧ I (x + 3) 0 = 0 ∧
  ((I x 2 = 0 ∧ I x 3 = 0) ∨ (I x 2 = 1 ∧ kRow I (x + 1) 1500 1500 f (kPos ru tab f len) (kCnt ru tab f len) ∧ (I x 3 = 0 ∨ (I x 3 = 1 ∧ ∃ L, kIx I (x + 1) f (kPos ru tab f len) (kCnt ru tab f len) L ∧ kCov f (kPos ru tab f len) (kCnt ru tab f len) L))))
def kFr (lo hi : Nat) (I J : kv_IM) : Prop := ∀ a, (a < lo ∨ hi < a) → J a = I a
theorem kTxt_of {I J : kv_IM} {x : Nat} {ru : Nat → Nat} {tab : Nat → Int32} {f : Nat → Nat} {len : Nat} (h : kTxt I x ru tab f len) (e : ∀ a, x ≤ a → a ≤ x + 6 → J a = I a) : kTxt J x ru tab f len := by
  obtain ⟨h1, h2, h3, h4, h5⟩ := h
  refine ⟨h1, by rw [e x (by omega) (by omega)]; exact h2, kTx_of h3 (e _ (by omega) (by omega)), by rw [e (x + 3) (by omega) (by omega)]; exact h4, ?_⟩
  rw [e x (by omega) (by omega)]
  rcases h5 with h5 | ⟨g1, g2, g3⟩
  · exact Or.inl h5
  · refine Or.inr ⟨g1, kRow_of g2 (e _ (by omega) (by omega)) (e _ (by omega) (by omega)) (e _ (by omega) (by omega)), ?_⟩
    rcases g3 with g3 | ⟨g3, L, g4, g5⟩
    · exact Or.inl g3
    · exact Or.inr ⟨g3, L, kIx_of g4 (fun j _ => by rw [e _ (by omega) (by omega)]) (e _ (by omega) (by omega)) (e _ (by omega) (by omega)), g5⟩
theorem kPosRow {ru : Nat → Nat} {tab : Nat → Int32} {f : Nat → Nat} {len : Nat} {I : kv_IM} {r : Nat} (h0 : I r 5 = nI (kCnt ru tab f len)) (h1 : ∀ k, k ≤ kCnt ru tab f len → I (r + 2) k = nI (kPos ru tab f len k)) (hl : len ≤ 1500) (hT : kTx I (r + 1) 0 f len) : kRow I r 1500 1500 f (kPos ru tab f len) (kCnt ru tab f len) := by
  have := kCnt_le (ru := ru) (tab := tab) (f := f) (len := len)
  exact ⟨h0, by omega, h1, fun k hk => kPos_inc hk, by rw [kCnt_end]; exact hl, by rw [kCnt_end]; exact hT⟩
theorem c_cut {d : Nat} {B : kv_B} {n : Nat} {S : kv_SM} {I : kv_IM} (hd : 3 ≤ d) {x g len : Nat} {f : Nat → Nat} {ru : Nat → Nat} {tab : Nat → Int32} (hS : TxtS S x) (hG : RulS S g) (hgx : g + 2 ≤ x) (hT : kTxt I x ru tab f len) (hru : RuI I g 1 ru) (htab : ∀ i, i < 256 → I (g + 1) i = tab i) (hok : RuOK ru) :
    kv_P y_Txt_cutBy d B [.ref x, .ref g] n S I (fun v J => v = none ∧ kFr x (x + 6) I J ∧ kTxt J x ru tab f len ∧ J x 2 = 1 ∧ kRow J (x + 1) 1500 1500 f (kPos ru tab f len) (kCnt ru tab f len)) := by
  obtain ⟨h1, h2, h3, h4, h5⟩ := id hT
  rcases h5 with ⟨c1, c2⟩ | ⟨c1, c2, c3⟩
  · refine (c_Txt_cutBy hd hS hG hgx h3 h1 h2 h4 hru hok c1).mono ?_
    intro v J hv
    obtain ⟨rfl, hJ⟩ := hv
    have hf : ∀ i, i < len → f i < 256 := fun i hi => (h3 i hi).2
    rw [kPos_tabF htab hf, kCnt_tab htab hf] at hJ
    have eo : ∀ a, a ≠ x → a ≠ x + 1 → a ≠ x + 3 → J a = I a := by
      intro a b1 b2 b3
      rw [← hJ]
      have : kv_up (kRw I (x + 1) (kPos ru tab f len) (kCnt ru tab f len)) x 2 1 a = kRw I (x + 1) (kPos ru tab f len) (kCnt ru tab f len) a := by
        funext i
        simp [kv_up, b1]
      rw [this]
      exact kRw_ne (by omega) (by omega)
    have ex : ∀ i, i ≠ 2 → J x i = I x i := by
      intro i hi
      rw [← hJ]
      unfold kv_up
      rw [if_pos rfl, if_neg hi, kRw_ne (by omega) (by omega)]
    have ex2 : J x 2 = 1 := by
      rw [← hJ]
      simp [kv_up]
    have er : ∀ a, a ≠ x → J a = kRw I (x + 1) (kPos ru tab f len) (kCnt ru tab f len) a := by
      intro a b1
      rw [← hJ]
      funext i
      simp [kv_up, b1]
    have hrow : kRow J (x + 1) 1500 1500 f (kPos ru tab f len) (kCnt ru tab f len) := by
      refine kPosRow ?_ (fun k hk => ?_) h1 (kTx_of h3 (eo _ (by omega) (by omega) (by omega)))
      · rw [er _ (by omega)]
        exact kRw_c
      · rw [er _ (by omega)]
        exact kRw_st hk
    refine ⟨rfl, fun a ha => eo a (by omega) (by omega) (by omega), ⟨h1, by rw [ex 1 (by omega)]; exact h2, kTx_of h3 (eo _ (by omega) (by omega) (by omega)), ?_, Or.inr ⟨ex2, hrow, Or.inl (by rw [ex 3 (by omega)]; exact c2)⟩⟩, ex2, hrow⟩
    rw [er _ (by omega)]
    exact kRw_st (r := x + 1) (Nat.zero_le _)
  · refine (c_Txt_cutBy' hS (by rw [c1]; decide)).mono ?_
    intro v J hv
    obtain ⟨rfl, rfl⟩ := hv
    exact ⟨rfl, fun _ _ => rfl, hT, c1, c2⟩
theorem c_idx {d : Nat} {B : kv_B} {n : Nat} {S : kv_SM} {I : kv_IM} (hd : 4 ≤ d) {x g len : Nat} {f : Nat → Nat} {ru : Nat → Nat} {tab : Nat → Int32} (hS : TxtS S x) (hG : RulS S g) (hgx : g + 2 ≤ x) (hT : kTxt I x ru tab f len) (hru : RuI I g 1 ru) (htab : ∀ i, i < 256 → I (g + 1) i = tab i) (hok : RuOK ru) :
    kv_P y_Txt_indexBy d B [.ref x, .ref g] n S I (fun v J => v = none ∧ kFr x (x + 6) I J ∧ kTxt J x ru tab f len ∧ kRow J (x + 1) 1500 1500 f (kPos ru tab f len) (kCnt ru tab f len) ∧ ∃ L, kIx J (x + 1) f (kPos ru tab f len) (kCnt ru tab f len) L ∧ kCov f (kPos ru tab f len) (kCnt ru tab f len) L) := by
  obtain ⟨s0, hR⟩ := id hS
  refine kv_P.of (by decide +kernel) rfl (Nat.le_of_ble_eq_true rfl) ?_
  refine bp_Txt_indexBy_0 (dc := 3) s0 (c_cut (by omega) hS hG hgx hT hru htab hok) (by omega) (fun v J hv => ?_)
  obtain ⟨rfl, hF, hT1, hc, hrow⟩ := hv
  refine bl_Txt_indexBy_5 s0 (fun hi => ?_) (fun hi => ?_)
  · refine bl_Txt_indexBy_24 ⟨rfl, rfl, rfl, hF, hT1, hrow, ?_⟩
    rcases hT1.2.2.2.2 with ⟨c1, -⟩ | ⟨-, -, c3⟩
    · rw [hc] at c1
      cases c1
    · rcases c3 with c3 | ⟨-, L, c4, c5⟩
      · exact absurd c3 hi
      · exact ⟨L, c4, c5⟩
  · refine bp_Txt_indexBy_12 (dc := 3) s0 rfl hR.1 (c_Row_index (by omega) hR (by omega) (by omega) hrow) (by omega) (fun v K hv => ?_)
    obtain ⟨rfl, hF2, L, hX, hC⟩ := hv
    refine bl_Txt_indexBy_19 s0 (bl_Txt_indexBy_24 ⟨rfl, rfl, rfl, ?_⟩)
    have er : ∀ a, a ≠ x → kv_up K x 3 1 a = K a := by
      intro a b1
      funext i
      simp [kv_up, b1]
    have e3 : kv_up K x 3 1 x 3 = 1 := by simp [kv_up]
    have ex : ∀ i, i ≠ 3 → kv_up K x 3 1 x i = J x i := by
      intro i hi'
      unfold kv_up
      rw [if_pos rfl, if_neg hi', hF2 x (by omega) (by omega) (by omega)]
    have eJ : ∀ a, a ≠ x → a ≠ x + 4 → a ≠ x + 5 → a ≠ x + 6 → kv_up K x 3 1 a = J a := by
      intro a b1 b2 b3 b4
      rw [er a b1, hF2 a (by omega) (by omega) (by omega)]
    have hrow' : kRow (kv_up K x 3 1) (x + 1) 1500 1500 f (kPos ru tab f len) (kCnt ru tab f len) := kRow_of hrow (eJ _ (by omega) (by omega) (by omega) (by omega)) (eJ _ (by omega) (by omega) (by omega) (by omega)) (eJ _ (by omega) (by omega) (by omega) (by omega))
    have hX' : kIx (kv_up K x 3 1) (x + 1) f (kPos ru tab f len) (kCnt ru tab f len) L := kIx_of hX (fun j _ => by rw [er _ (by omega)]) (er _ (by omega)) (er _ (by omega))
    obtain ⟨g1, g2, g3, g4, g5⟩ := id hT1
    refine ⟨fun a ha => ?_, ⟨g1, by rw [ex 1 (by omega)]; exact g2, kTx_of g3 (eJ _ (by omega) (by omega) (by omega) (by omega)), by rw [eJ (x + 3) (by omega) (by omega) (by omega) (by omega)]; exact g4, Or.inr ⟨by rw [ex 2 (by omega)]; exact hc, hrow', Or.inr ⟨e3, L, hX', hC⟩⟩⟩, hrow', L, hX', hC⟩
    rw [eJ a (by omega) (by omega) (by omega) (by omega)]
    exact hF a ha
def kHas (f p : Nat → Nat) (k : Nat) (g q : Nat → Nat) : Nat → Bool
  | 0 => false
  | m + 1 => kHas f p k g q m || decide (kLike f p k g q m)
theorem kHas_iff {f p : Nat → Nat} {k : Nat} {g q : Nat → Nat} : ∀ {m : Nat}, kHas f p k g q m = true ↔ ∃ j, j < m ∧ kLike f p k g q j
  | 0 => by simp [kHas]
  | m + 1 => by
    rw [kHas, Bool.or_eq_true, kHas_iff (m := m), decide_eq_true_iff]
    constructor
    · rintro (⟨j, h1, h2⟩ | h)
      · exact ⟨j, by omega, h2⟩
      · exact ⟨m, by omega, h⟩
    · rintro ⟨j, h1, h2⟩
      by_cases hj : j = m
      · subst hj; exact Or.inr h2
      · exact Or.inl ⟨j, by omega, h2⟩
def kSm (g : Nat → Nat) : Nat → Nat
  | 0 => 0
  | k + 1 => kSm g k + g k
theorem kFind_has {f p g q : Nat → Nat} {c k' : Nat} {L : Nat → List Nat} {I : kv_IM} {r : Nat} (hX : kIx I r f p c L) (hC : kCov f p c L) : (∃ k, k ∈ L (kKey g q k') ∧ kLike f p k g q k') ↔ kHas g q k' f p c = true := by
  rw [kHas_iff]
  constructor
  · rintro ⟨k, h1, h2⟩
    exact ⟨k, kDec_mem (hX.2 _ (kKN_lt _)).2.1 k h1, kLike_symm h2⟩
  · rintro ⟨j, h1, h2⟩
    obtain ⟨k, h3, h4⟩ := hC j h1
    refine ⟨k, ?_, kLike_trans h4 (kLike_symm h2)⟩
    have e : kKey g q k' = kKey f p j := by
      unfold kKey
      rw [kLike_fnv h2]
    rw [e]
    exact h3
