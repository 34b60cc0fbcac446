theorem c_Md_isLike {d : Nat} {B : kv_B} {n : Nat} {S : kv_SM} {I : kv_IM} (hd : 1 ≤ d) {w k k' c c' i j : Nat} {ru : Nat → Nat} {tab : Nat → Int32} {len : Nat → Nat} {tb : Nat → Nat → Nat} {p q : Nat → Nat} (hS : MdS S w) (hA : MdA I w ru tab len tb) (hk : k < 4) (hk' : k' < 4) (hp : ∀ z, z ≤ c → I (w + 4) z = nI (p z)) (hq : ∀ z, z ≤ c' → I (w + 5) z = nI (q z)) (hpm : ∀ z, z < c → p z < p (z + 1)) (hqm : ∀ z, z < c' → q z < q (z + 1)) (hpl : p c ≤ len k) (hql : q c' ≤ len k') (hc : c ≤ 1500) (hc' : c' ≤ 1500) (hi : i < c) (hj : j < c') :
    kv_P y_Md_isLike d B [.ref w, .int (nI k), .int (nI i), .int (nI k'), .int (nI j)] n S I (kQi (kB (kLike (tb k) p i (tb k') q j)) I) := by
  obtain ⟨s0, s1, s2, s3, s4, s5, -⟩ := id hS
  obtain ⟨l1, -, hX⟩ := hA.2.2 k hk
  obtain ⟨l2, -, hY⟩ := hA.2.2 k' hk'
  have m1 := hpm i hi
  have m2 := kMon hpm (i := i + 1) (k := c) (by omega) (Nat.le_refl _)
  have n1 := hqm j hj
  have n2 := kMon hqm (i := j + 1) (k := c') (by omega) (Nat.le_refl _)
  refine kv_P.of (by decide +kernel) rfl (Nat.le_of_ble_eq_true rfl) ?_
  refine bl_Md_isLike_0 s0 rfl s4 (j4 := i + 1) ⟨nI_1 i, by omega, by omega⟩ ⟨rfl, by omega, by omega⟩ rfl s5 (j8 := j + 1) ⟨nI_1 j, by omega, by omega⟩ ⟨rfl, by omega, by omega⟩ (fun h => ?_) (fun h => ?_)
  · rw [hp _ (by omega), hp _ (by omega), hq _ (by omega), hq _ (by omega), pk_sub (by omega), pk_sub (by omega), nI_eq (by omega) (by omega)] at h
    exact bl_Md_isLike_84 (bl_Md_isLike_85 rfl (kQi_end (kB_f (fun z => h z.1)).symm))
  · rw [hp _ (by omega), hp _ (by omega), hq _ (by omega), hq _ (by omega), pk_sub (by omega), pk_sub (by omega), nI_eq (by omega) (by omega)] at h
    rw [hp _ (by omega), hp _ (by omega), pk_sub (by omega)]
    refine bp_Md_isLike_39 (dc := 0) s0 rfl rfl s4 ⟨rfl, by omega, by omega⟩ rfl s5 ⟨rfl, by omega, by omega⟩ (by
      rw [hp _ (by omega), hq _ (by omega), show (1500 : Int32) * nI k = nI (1500 * k) from pk_mul 1500 k, show (1500 : Int32) * nI k' = nI (1500 * k') from pk_mul 1500 k', nI_add, nI_add]
      exact c_Md_isSame s1 s1 (by omega) (by omega) hX hY (by omega) (by omega) (by omega) (by omega)) (by omega) (fun v J hv => ?_)
    obtain ⟨rfl, rfl⟩ := hv
    refine bl_Md_isLike_77 (fun hb => ?_) (fun hb => ?_)
    · have hn := kB_e0.mp hb
      exact bl_Md_isLike_84 (bl_Md_isLike_85 rfl (kQi_end (kB_f (fun z => hn z.2)).symm))
    · have hy := Classical.not_not.mp (fun z => hb (kB_e0.mpr z))
      exact bl_Md_isLike_80 (bl_Md_isLike_85 rfl (kQi_end (kB_t ⟨h, hy⟩).symm))
theorem kHas_mono {f p : Nat → Nat} {k : Nat} {g q : Nat → Nat} {m m' : Nat} (h : m ≤ m') (hh : kHas f p k g q m = true) : kHas f p k g q m' = true := by
  rw [kHas_iff] at hh ⊢
  obtain ⟨j, h1, h2⟩ := hh
  exact ⟨j, by omega, h2⟩
theorem c_Md_alike {d : Nat} {B : kv_B} {n : Nat} {S : kv_SM} {I : kv_IM} (hd : 4 ≤ d) {w : Nat} {ru : Nat → Nat} {tab : Nat → Int32} {len : Nat → Nat} {tb : Nat → Nat → Nat} (t s x : Int32) (hS : MdS S w) (hA' : MdA I w ru tab len tb) (hok : RuOK ru) :
    kv_P y_Md_alike d B [.ref w, .int t, .int s, .int x] n S I (MdR I w ru tab len tb (.int (sAlike ru tab len tb t s x))) := by
  obtain ⟨s0, s1, s2, s3, s4, s5, -⟩ := id hS
  have t0 : (0 : Int32).toInt = 0 := by decide
  have t3 : (3 : Int32).toInt = 3 := by decide
  have hA := kC0_A hA'
  have hK0 := kC0_K (I := I) (w := w)
  refine kv_P.of (by decide +kernel) rfl (Nat.le_of_ble_eq_true rfl) ?_
  refine bp_Md_alike_0 (dc := 1) s0 (c_Md_isText (by omega) t) (by omega) (fun v J hv => ?_)
  obtain ⟨rfl, rfl⟩ := hv
  show kv_V _ _ _ _ _ _ _ _ (kC0 I w) _ _ _
  generalize kC0 I w = I0 at *
  have bad : ¬ (kT t ∧ kT s ∧ (0 ≤ x.toInt ∧ x.toInt ≤ 3)) → kv_V y_Md_alike d B (kv_PQ n S (MdR I w ru tab len tb (.int (sAlike ru tab len tb t s x)))) 0 0 n S I0 28 [(0, .ref w), (1, .int t), (2, .int s), (3, .int x)] [] := by
    intro hn
    refine bl_Md_alike_28 ⟨rfl, rfl, ?_, hK0, hA⟩
    unfold sAlike
    rw [if_neg hn]
  refine bl_Md_alike_9 (fun h => bad (fun q => kB_e0.mp h q.1)) (fun h => ?_)
  have ht : kT t := Classical.not_not.mp (fun q => h (kB_e0.mpr q))
  obtain ⟨hk, et⟩ := kT_of ht
  refine bp_Md_alike_12 (dc := 1) (c_Md_isText (by omega) s) (by omega) (fun v J hv => ?_)
  obtain ⟨rfl, rfl⟩ := hv
  refine bl_Md_alike_16 (fun h => bad (fun q => kB_e0.mp h q.2.1)) (fun h => ?_)
  have hs : kT s := Classical.not_not.mp (fun q => h (kB_e0.mpr q))
  obtain ⟨hk', es⟩ := kT_of hs
  refine bp_Md_alike_19 (dc := 0) (c_Md_in x 0 3) (by omega) (fun v J hv => ?_)
  obtain ⟨rfl, rfl⟩ := hv
  refine bl_Md_alike_25 (fun h => ?_) (fun h => bad (fun q => kB_e0.mp h (by have := q.2.2; omega)))
  have hx := Classical.not_not.mp (fun q => h (kB_e0.mpr q))
  rw [t0, t3] at hx
  have e0 : sAlike ru tab len tb t s x = kAlk (tb (tN t)) (kPos ru tab (tb (tN t)) (len (tN t))) (kCnt ru tab (tb (tN t)) (len (tN t))) (tb (tN s)) (kPos ru tab (tb (tN s)) (len (tN s))) (kCnt ru tab (tb (tN s)) (len (tN s))) x := by
    unfold sAlike
    exact if_pos ⟨ht, hs, hx⟩
  rw [e0]
  refine bp_Md_alike_30 (dc := 3) s0 rfl (by rw [et]; exact c_lay (by omega) hS hA hok hk (Or.inl rfl)) (by omega) (fun v J1 hv => ?_)
  obtain ⟨rfl, hF1, hP1⟩ := hv
  obtain ⟨hA1, hK1⟩ := layA hA (Or.inl rfl) hF1
  have l1 := (hA.2.2 _ hk).1
  have l2 := (hA.2.2 _ hk').1
  have c1 := kCnt_le (ru := ru) (tab := tab) (f := tb (tN t)) (len := len (tN t))
  have c2 := kCnt_le (ru := ru) (tab := tab) (f := tb (tN s)) (len := len (tN s))
  have hpm : ∀ z, z < kCnt ru tab (tb (tN t)) (len (tN t)) → kPos ru tab (tb (tN t)) (len (tN t)) z < kPos ru tab (tb (tN t)) (len (tN t)) (z + 1) := fun z hz => kPos_inc hz
  have hqm : ∀ z, z < kCnt ru tab (tb (tN s)) (len (tN s)) → kPos ru tab (tb (tN s)) (len (tN s)) z < kPos ru tab (tb (tN s)) (len (tN s)) (z + 1) := fun z hz => kPos_inc hz
  have hpl : kPos ru tab (tb (tN t)) (len (tN t)) (kCnt ru tab (tb (tN t)) (len (tN t))) ≤ len (tN t) := kPos_le _
  have hql : kPos ru tab (tb (tN s)) (len (tN s)) (kCnt ru tab (tb (tN s)) (len (tN s))) ≤ len (tN s) := kPos_le _
  have up11 : ∀ (M : kv_IM) (f : Nat) (v : Int32), f = 11 ∨ f = 13 → MdA M w ru tab len tb → MdA (kv_up M w f v) w ru tab len tb ∧ MdK w M (kv_up M w f v) := by
    intro M f v hf hM
    have eo : ∀ a, a ≠ w → kv_up M w f v a = M a := by
      intro a ha
      funext i
      simp [kv_up, ha]
    have ei : ∀ i, i ≠ f → kv_up M w f v w i = M w i := by
      intro i hi
      simp [kv_up, hi]
    exact ⟨MdA_of hM (fun i h1 h2 => ei i (by omega)) (fun a h1 h2 => eo a (by omega)), fun a ha => eo a (by omega), ei 15 (by omega), ei 16 (by omega)⟩
  obtain ⟨hA2, hK2⟩ := up11 J1 11 (nI (kCnt ru tab (tb (tN t)) (len (tN t)))) (Or.inl rfl) hA1
  have hP2 : ∀ k, k ≤ kCnt ru tab (tb (tN t)) (len (tN t)) → kv_up J1 w 11 (nI (kCnt ru tab (tb (tN t)) (len (tN t)))) (w + 4) k = nI (kPos ru tab (tb (tN t)) (len (tN t)) k) := by
    intro k hk
    rw [← hP1 k hk]
    simp [kv_up]
  have h11 : kv_up J1 w 11 (nI (kCnt ru tab (tb (tN t)) (len (tN t)))) w 11 = nI (kCnt ru tab (tb (tN t)) (len (tN t))) := by simp [kv_up]
  refine bp_Md_alike_40 (dc := 3) s0 s0 rfl (by rw [es]; exact c_lay (by omega) hS hA2 hok hk' (Or.inr rfl)) (by omega) (fun v J3 hv => ?_)
  obtain ⟨rfl, hF3, hP3⟩ := hv
  obtain ⟨hA3, hK3⟩ := layA hA2 (Or.inr rfl) hF3
  have hP4 : ∀ k, k ≤ kCnt ru tab (tb (tN t)) (len (tN t)) → J3 (w + 4) k = nI (kPos ru tab (tb (tN t)) (len (tN t)) k) := by
    intro k hk
    rw [hF3 _ (by omega)]
    exact hP2 k hk
  have h11' : J3 w 11 = nI (kCnt ru tab (tb (tN t)) (len (tN t))) := by rw [hF3 _ (by omega)]; exact h11
  obtain ⟨hA4, hK4⟩ := up11 J3 13 (nI (kCnt ru tab (tb (tN s)) (len (tN s)))) (Or.inr rfl) hA3
  have hKK := MdK_tr (MdK_tr (MdK_tr (MdK_tr hK0 hK1) hK2) hK3) hK4
  have g4 : ∀ k, k ≤ kCnt ru tab (tb (tN t)) (len (tN t)) → kv_up J3 w 13 (nI (kCnt ru tab (tb (tN s)) (len (tN s)))) (w + 4) k = nI (kPos ru tab (tb (tN t)) (len (tN t)) k) := by
    intro k hk
    rw [← hP4 k hk]
    simp [kv_up]
  have g5 : ∀ k, k ≤ kCnt ru tab (tb (tN s)) (len (tN s)) → kv_up J3 w 13 (nI (kCnt ru tab (tb (tN s)) (len (tN s)))) (w + 5) k = nI (kPos ru tab (tb (tN s)) (len (tN s)) k) := by
    intro k hk
    rw [← hP3 k hk]
    simp [kv_up]
  have g11 : kv_up J3 w 13 (nI (kCnt ru tab (tb (tN s)) (len (tN s)))) w 11 = nI (kCnt ru tab (tb (tN t)) (len (tN t))) := by
    rw [← h11']
    simp [kv_up]
  have g13 : kv_up J3 w 13 (nI (kCnt ru tab (tb (tN s)) (len (tN s)))) w 13 = nI (kCnt ru tab (tb (tN s)) (len (tN s))) := by simp [kv_up]
  clear hP4 h11' hP3 hF3 hK4 hK3 hP2 h11 hK2 hA2 hF1 hP1 hK1 hA1 hA3 up11
  generalize hM : kv_up J3 w 13 (nI (kCnt ru tab (tb (tN s)) (len (tN s)))) = M at *
  generalize kPos ru tab (tb (tN t)) (len (tN t)) = p at *
  generalize kCnt ru tab (tb (tN t)) (len (tN t)) = c at *
  generalize kPos ru tab (tb (tN s)) (len (tN s)) = q at *
  generalize kCnt ru tab (tb (tN s)) (len (tN s)) = c' at *
  have like : ∀ i j, i < c → j < c' → kv_P y_Md_isLike 1 B [.ref w, .int t, .int (nI i), .int s, .int (nI j)] n S M (kQi (kB (kLike (tb (tN t)) p i (tb (tN s)) q j)) M) := by
    intro i j hi hj
    have := c_Md_isLike (d := 1) (B := B) (n := n) (S := S) (I := M) (by omega) hS hA4 hk hk' g4 g5 hpm hqm hpl hql (by omega) (by omega) hi hj
    rw [← et, ← es] at this
    exact this
  have t2 : (2 : Int32).toInt = 2 := by decide
  obtain ⟨x1, x2, x3⟩ := tN_of hx.1
  refine bl_Md_alike_53 s0 (fun h2 => ?_) (fun h2 => ?_)
  · have h2 := i_le.mp h2
    rw [t2] at h2
    rw [hM]
    have hmin : kMin c c' ≤ c ∧ kMin c c' ≤ c' ∧ (kMin c c' = c ∨ kMin c c' = c') := by unfold kMin; split <;> omega
    have hn0 : ¬ x = 0 := fun q => by rw [q, t0] at h2; omega
    have hn1 : ¬ x = 1 := fun q => by rw [q] at h2; revert h2; decide
    have eK : ∀ P : Nat → Bool, (∀ k, P k = if x = 2 then decide (kLike (tb (tN t)) p k (tb (tN s)) q k) else decide (kLike (tb (tN t)) p (c - 1 - k) (tb (tN s)) q (c' - 1 - k))) → kAlk (tb (tN t)) p c (tb (tN s)) q c' x = nI (kFst P (kMin c c') 0) := by
      intro P hP
      unfold kAlk
      rw [if_neg hn0, if_neg hn1]
      by_cases h9 : x = 2
      · rw [if_pos h9]
        congr 2
        funext k
        rw [hP, if_pos h9]
      · rw [if_neg h9]
        congr 2
        funext k
        rw [hP, if_neg h9]
    obtain ⟨P, hP⟩ : ∃ P : Nat → Bool, ∀ k, P k = if x = 2 then decide (kLike (tb (tN t)) p k (tb (tN s)) q k) else decide (kLike (tb (tN t)) p (c - 1 - k) (tb (tN s)) q (c' - 1 - k)) := ⟨_, fun _ => rfl⟩
    rw [eK P hP]
    have loop : ∀ (j i : Nat), i + j = kMin c c' → kv_V y_Md_alike d B (kv_PQ n S (MdR I w ru tab len tb (.int (nI (kFst P j i))))) 0 0 n S M 162 [(0, .ref w), (1, .int t), (2, .int s), (3, .int x), (4, .int (nI i))] [] := by
      intro j
      induction j with
      | zero =>
        intro i hi
        have hend : kv_V y_Md_alike d B (kv_PQ n S (MdR I w ru tab len tb (.int (nI (kFst P 0 i))))) 0 0 n S M 234 [(0, .ref w), (1, .int t), (2, .int s), (3, .int x), (4, .int (nI i))] [] := bl_Md_alike_234 ⟨rfl, rfl, by rw [kFst], hKK, hA4⟩
        refine bl_Md_alike_162 s0 (fun _ => hend) (fun h3 => ?_)
        rw [g11, nI_leI (by omega) (by omega)] at h3
        refine bl_Md_alike_171 s0 (fun _ => hend) (fun h4 => ?_)
        rw [g13, nI_leI (by omega) (by omega)] at h4
        omega
      | succ j ih =>
        intro i hi
        refine bl_Md_alike_162 s0 (fun h3 => absurd h3 (by rw [g11]; exact nI_ge (by omega) (by omega))) (fun _ => ?_)
        refine bl_Md_alike_171 s0 (fun h3 => absurd h3 (by rw [g13]; exact nI_ge (by omega) (by omega))) (fun _ => ?_)
        have yes : P i = true → kv_V y_Md_alike d B (kv_PQ n S (MdR I w ru tab len tb (.int (nI (kFst P (j + 1) i))))) 0 0 n S M 228 [(0, .ref w), (1, .int t), (2, .int s), (3, .int x), (4, .int (nI i))] [] := by
          intro hp
          refine bl_Md_alike_228 ?_
          rw [kFst, if_pos hp, nI_1]
          exact ih (i + 1) (by omega)
        have no : ¬ P i = true → kv_V y_Md_alike d B (kv_PQ n S (MdR I w ru tab len tb (.int (nI (kFst P (j + 1) i))))) 0 0 n S M 234 [(0, .ref w), (1, .int t), (2, .int s), (3, .int x), (4, .int (nI i))] [] := by
          intro hp
          refine bl_Md_alike_234 ⟨rfl, rfl, ?_, hKK, hA4⟩
          rw [kFst, if_neg hp]
        refine bl_Md_alike_180 (fun h9 => ?_) (fun h9 => ?_)
        · refine bp_Md_alike_201 (dc := 1) s0 (by
            have e1 : nI c - 1 - nI i = nI (c - 1 - i) := by
              show nI c - nI 1 - nI i = _
              rw [pk_sub (by omega), pk_sub (by omega)]
            have e2 : nI c' - 1 - nI i = nI (c' - 1 - i) := by
              show nI c' - nI 1 - nI i = _
              rw [pk_sub (by omega), pk_sub (by omega)]
            rw [g11, g13, e1, e2]
            exact like _ _ (by omega) (by omega)) (by omega) (fun v K hv => ?_)
          obtain ⟨rfl, rfl⟩ := hv
          refine bl_Md_alike_225 (fun hb => ?_) (fun hb => ?_)
          · refine no (fun z => kB_e0.mp hb ?_)
            rw [hP, if_neg h9] at z
            exact of_decide_eq_true z
          · refine yes ?_
            rw [hP, if_neg h9]
            exact decide_eq_true (Classical.not_not.mp (fun z => hb (kB_e0.mpr z)))
        · refine bp_Md_alike_185 (dc := 1) s0 (like _ _ (by omega) (by omega)) (by omega) (fun v K hv => ?_)
          obtain ⟨rfl, rfl⟩ := hv
          refine bl_Md_alike_195 (fun hb => ?_) (fun hb => ?_)
          · refine no (fun z => kB_e0.mp hb ?_)
            rw [hP, if_pos h9] at z
            exact of_decide_eq_true z
          · refine bl_Md_alike_198 (yes ?_)
            rw [hP, if_pos h9]
            exact decide_eq_true (Classical.not_not.mp (fun z => hb (kB_e0.mpr z)))
    exact loop _ 0 (Nat.zero_add _)
  · have h2 := i_nle.mp h2
    rw [t2] at h2
    rw [hM]
    refine bl_Md_alike_64 ?_
    obtain ⟨G, hG⟩ : ∃ G : Nat → Nat, ∀ k, G k = if kHas (tb (tN t)) p k (tb (tN s)) q c' then (if x = 0 then 1 else p (k + 1) - p k) else 0 := ⟨_, fun _ => rfl⟩
    have eK : kAlk (tb (tN t)) p c (tb (tN s)) q c' x = nI (kSm G c) := by
      unfold kAlk
      by_cases h9 : x = 0
      · rw [if_pos h9]
        congr 2
        funext k
        rw [hG, if_pos h9]
      · have h1 : x = 1 := by
          have h8 : ¬ x.toInt = 0 := fun q => h9 (i_eq.mpr (by rw [q, t0]))
          exact i_eq.mpr (by have : (1 : Int32).toInt = 1 := by decide
                             omega)
        rw [if_neg h9, if_pos h1]
        congr 2
        funext k
        rw [hG, if_neg h9]
    rw [eK]
    have outer : ∀ (j k : Nat), k + j = c → kv_V y_Md_alike d B (kv_PQ n S (MdR I w ru tab len tb (.int (nI (kSm G c))))) 0 0 n S M 67 [(0, .ref w), (1, .int t), (2, .int s), (3, .int x), (4, .int (nI (kSm G k))), (5, .int (nI k))] [] := by
      intro j
      induction j with
      | zero =>
        intro k hk
        have : k = c := by omega
        subst this
        refine bl_Md_alike_67 s0 (fun _ => ?_) (fun h3 => absurd (by rw [g11]; exact nI_le (Nat.le_refl _) (by omega)) h3)
        exact bl_Md_alike_159 ⟨rfl, rfl, rfl, hKK, hA4⟩
      | succ j ih =>
        intro k hk
        refine bl_Md_alike_67 s0 (fun h3 => absurd h3 (by rw [g11]; exact nI_ge (by omega) (by omega))) (fun _ => ?_)
        refine bl_Md_alike_76 ?_
        have nxt : ∀ (g : Nat) (m : Nat), g = G k → kv_V y_Md_alike d B (kv_PQ n S (MdR I w ru tab len tb (.int (nI (kSm G c))))) 0 0 n S M 150 [(0, .ref w), (1, .int t), (2, .int s), (3, .int x), (4, .int (nI (kSm G k))), (5, .int (nI k)), (6, .int (kB (kHas (tb (tN t)) p k (tb (tN s)) q c' = true))), (7, .int (nI m))] [.int (nI g), .int (nI (kSm G k))] := by
          intro g m hg
          refine bl_Md_alike_150 ?_
          have h9 := ih (k + 1) (by omega)
          rw [kSm] at h9
          rw [nI_add, nI_1, hg]
          exact h9
        have fin : ∀ m, kv_V y_Md_alike d B (kv_PQ n S (MdR I w ru tab len tb (.int (nI (kSm G c))))) 0 0 n S M 114 [(0, .ref w), (1, .int t), (2, .int s), (3, .int x), (4, .int (nI (kSm G k))), (5, .int (nI k)), (6, .int (kB (kHas (tb (tN t)) p k (tb (tN s)) q c' = true))), (7, .int (nI m))] [] := by
          intro m
          refine bl_Md_alike_114 (fun hb => ?_) (fun hb => ?_)
          · have hh := Classical.not_not.mp (fun z => hb (kB_e0.mpr z))
            refine bl_Md_alike_125 (fun h9 => ?_) (fun h9 => ?_)
            · have m1 := hpm k (by omega)
              have m2 := kMon hpm (i := k + 1) (k := c) (by omega) (Nat.le_refl _)
              refine bl_Md_alike_133 s0 rfl s4 (j4 := k + 1) ⟨nI_1 k, by omega, by omega⟩ ⟨rfl, by omega, by omega⟩ ?_
              rw [g4 _ (by omega), g4 _ (by omega), pk_sub (by omega)]
              exact nxt _ m (by rw [hG, if_pos hh, if_neg h9])
            · exact bl_Md_alike_129 (nxt 1 m (by rw [hG, if_pos hh, if_pos h9]))
          · have hh := kB_e0.mp hb
            exact bl_Md_alike_121 (nxt 0 m (by rw [hG, if_neg hh]))
        have inner : ∀ (j2 m : Nat), m + j2 = c' → kv_V y_Md_alike d B (kv_PQ n S (MdR I w ru tab len tb (.int (nI (kSm G c))))) 0 0 n S M 82 [(0, .ref w), (1, .int t), (2, .int s), (3, .int x), (4, .int (nI (kSm G k))), (5, .int (nI k)), (6, .int (kB (kHas (tb (tN t)) p k (tb (tN s)) q m = true))), (7, .int (nI m))] [] := by
          intro j2
          induction j2 with
          | zero =>
            intro m hm
            have : m = c' := by omega
            subst this
            exact bl_Md_alike_82 s0 (fun _ => fin m) (fun h3 => absurd (by rw [g13]; exact nI_le (Nat.le_refl _) (by omega)) h3)
          | succ j2 ih2 =>
            intro m hm
            refine bl_Md_alike_82 s0 (fun h3 => absurd h3 (by rw [g13]; exact nI_ge (by omega) (by omega))) (fun _ => ?_)
            refine bl_Md_alike_91 (fun hb => ?_) (fun hb => ?_)
            · have hh := Classical.not_not.mp (fun z => hb (kB_e0.mpr z))
              have h8 := fin m
              rw [kB_t (kHas_mono (by omega) hh)] at h8
              rw [kB_t hh]
              exact h8
            · have hh := kB_e0.mp hb
              refine bp_Md_alike_96 (dc := 1) s0 (like k m (by omega) (by omega)) (by omega) (fun v K hv => ?_)
              obtain ⟨rfl, rfl⟩ := hv
              refine bl_Md_alike_106 ?_
              have h8 := ih2 (m + 1) (by omega)
              have e8 : kB (kHas (tb (tN t)) p k (tb (tN s)) q (m + 1) = true) = kB (kLike (tb (tN t)) p k (tb (tN s)) q m) := by
                by_cases h7 : kLike (tb (tN t)) p k (tb (tN s)) q m
                · rw [kB_t h7, kB_t (kHas_iff.mpr ⟨m, by omega, h7⟩)]
                · rw [kB_f h7, kB_f]
                  intro z
                  rw [kHas, Bool.or_eq_true] at z
                  rcases z with z | z
                  · exact hh z
                  · exact h7 (of_decide_eq_true z)
              rw [e8] at h8
              rw [nI_1]
              exact h8
        have h0 := inner c' 0 (by omega)
        rw [kB_f (by rw [kHas]; decide)] at h0
        exact h0
    exact outer c 0 (by omega)
