def kS0 : kSt := (0, fun _ => 0, fun _ => 0, fun _ => 0, fun _ => false, fun _ => 0, fun _ _ => 0)
theorem StK_0 : StK kS0 := ⟨by omega, rfl, fun k hk => absurd hk (by omega), Nat.zero_le _, fun k k' hk => absurd hk (by omega), fun q hq ht => absurd ht (by simp), fun k hk => absurd hk (by omega)⟩
theorem kTxt_z {I : kv_IM} {x : Nat} {ru : Nat → Nat} {tab : Nat → Int32} {f : Nat → Nat} (h : kZr I x (x + 5)) : kTxt I x ru tab f 0 := ⟨by omega, h x (by omega) (by omega) 1, fun i hi => absurd hi (by omega), h (x + 3) (by omega) (by omega) 0, Or.inl ⟨h x (by omega) (by omega) 2, h x (by omega) (by omega) 3⟩⟩
theorem StC_z {I : kv_IM} {s : Nat} (h1 : ∀ a, s ≤ a → a ≤ s + 29 → a ≠ s + 6 → ∀ i, I a i = 0) (h2 : ∀ i, i < 256 → I (s + 6) i = -1) : StC I s kS0 := by
  refine ⟨⟨⟨h1 (s + 1) (by omega) (by omega) (by omega) 5, by omega, fun k hk => h1 (s + 1 + 2) (by omega) (by omega) (by omega) k, fun k hk => absurd hk (by omega), Nat.zero_le _, fun i hi => absurd hi (Nat.not_lt_zero _)⟩, (fun _ => []), ⟨fun j hj => absurd hj (by omega), fun key hk => ⟨h2 key hk, trivial, fun k hk => absurd hk (by simp)⟩⟩, fun j hj => absurd hj (by omega)⟩, fun k hk => absurd hk (by omega), fun q hq => ⟨?_, fun ht => absurd ht (by simp)⟩⟩
  rw [h1 (s + 10 + 2 * q) (by omega) (by omega) (by omega) 3]
  rfl
theorem StM_z {I : kv_IM} {w : Nat} (h1 : I w 15 = 0) (h2 : I w 16 = 0) (h3 : ∀ q, I (w + 10) q = 0) : StM I w kS0 := by
  refine ⟨⟨h1, h2, fun i hi => absurd hi (Nat.not_lt_zero _), fun k hk => absurd hk (by omega)⟩, fun q hq => ⟨?_, fun ht => absurd ht (by simp)⟩⟩
  rw [h3 q]
  rfl
theorem c_Cb_init {d : Nat} {B : kv_B} {n : Nat} {S : kv_SM} {I : kv_IM} (hd : 4 ≤ d) {o : Nat} (hb : B.1 + n = o + 1) (h0 : S o = kO 5 (fun _ => none)) :
    kv_T y_Cb_init d 61 48152 B [.ref o] n S I (fun v n' S' I' => v = none ∧ n' = n + 61 ∧ CbS S' o ∧ CbA I' o (ruOf 0 4 64 3 0 1) (kTb 1) (fun _ => 0) (fun _ _ => 0) ∧ StC I' (o + 32) kS0) := by
  refine kv_T.of (by decide +kernel) rfl (Nat.le_of_ble_eq_true rfl) ?_
  generalize hQQ : (fun (v : Option Value) (n' : Nat) (S' : kv_SM) (I' : kv_IM) => v = none ∧ n' = n + 61 ∧ CbS S' o ∧ CbA I' o (ruOf 0 4 64 3 0 1) (kTb 1) (fun _ => 0) (fun _ _ => 0) ∧ StC I' (o + 32) kS0) = QQ
  have loop : ∀ (j t n' : Nat) (T : kv_SM) (J : kv_IM) (kc ks : Nat), t + j = 4 → B.1 + n' = o + 4 + 7 * t → 7 * j + 30 ≤ kc → 6267 * j + 22817 ≤ ks → T o = kO 5 (kv_ru (kv_ru (fun _ => none) 0 (some (o + 1))) 1 (some (o + 3))) → RulS T (o + 1) → T (o + 3) = kA 4 4 (fun k => if k < t then some (o + 4 + 7 * k) else none) → (∀ r, r < t → TxtS T (o + 4 + 7 * r)) → RuI J (o + 1) 1 (ruOf 0 4 64 3 0 1) → (∀ i, i < 256 → J (o + 2) i = kTb 1 i) → (∀ r, r < t → kZr J (o + 4 + 7 * r) (o + 4 + 7 * r + 5)) → kv_V y_Cb_init d B QQ kc ks n' T J 25 [(0, .ref o), (1, .int (nI t))] [] := by
    intro j
    induction j with
    | zero =>
      intro t n' T J kc ks ht hn hkc hks t0 t1 t2 t3 t4 t5 t6
      have e : t = 4 := by omega
      subst e
      refine bl_Cb_init_25 (fun _ => ?_) (fun h => absurd (nI_le (a := 4) (b := 4) (by omega) (by omega)) h)
      refine bl_Cb_init_49 (dc := 3) (by omega) (by omega) (c_Sto_init (s := B.1 + n') (by omega) (by omega) ksu_s (fun i => by rw [kiu_s])) (by omega) (by omega) (by omega) (fun v n'' T' J' hv => ?_)
      rw [show B.1 + n' = o + 32 by omega] at hv ⊢
      obtain ⟨rfl, rfl, g1, g2, g3, g4, g5⟩ := hv
      have f1 : ∀ a, a < o + 32 → T' a = T a := fun a ha => by rw [g2 a (by omega), ksu_n (by omega)]
      have f2 : ∀ a, a < o + 32 → J' a = J a := fun a ha => by rw [g3 a (by omega), kiu_n (by omega)]
      refine bl_Cb_init_57 ((f1 _ (by omega)).trans t0) ?_
      have f3 : ∀ a, a < o + 32 → a ≠ o → kv_su T' o (kO 5 (kv_ru (kv_ru (kv_ru (fun _ => none) 0 (some (o + 1))) 1 (some (o + 3))) 2 (some (o + 32)))) a = T a := fun a ha hne => by rw [ksu_n hne, f1 a ha]
      rw [← hQQ]
      refine ⟨rfl, by omega, ⟨by rw [ksu_s, cb_ru], RulS_of t1 (fun a c1 c2 => f3 a (by omega) (by omega)), (f3 _ (by omega) (by omega)).trans t2, fun r hr => TxtS_of (t3 r hr) (fun a c1 c2 => f3 a (by omega) (by omega)), StoS_of g1 (fun a c1 c2 => ksu_n (by omega))⟩, ⟨RuI_of t4 (f2 _ (by omega)), fun i hi => by rw [f2 _ (by omega)]; exact t5 i hi, fun r hr => kTxt_z (fun a c1 c2 i => by rw [f2 a (by omega)]; exact t6 r hr a c1 c2 i)⟩, StC_z g4 g5⟩
    | succ j ih =>
      intro t n' T J kc ks ht hn hkc hks t0 t1 t2 t3 t4 t5 t6
      refine bl_Cb_init_25 (fun h => absurd h (nI_ge (a := t) (b := 4) (by omega) (by omega))) (fun _ => ?_)
      refine bl_Cb_init_30 (dc := 3) t0 rfl (by omega) (by omega) (c_Txt_init (a0 := B.1 + n') (by omega) (by omega) ksu_s (fun i => by rw [kiu_s])) (by omega) (by omega) (by omega) (fun v n'' T' J' hv => ?_)
      rw [hn] at hv ⊢
      obtain ⟨rfl, rfl, g1, g2, g3, g4⟩ := hv
      have f1 : ∀ a, a < o + 4 + 7 * t → T' a = T a := fun a ha => by rw [g2 a (by omega), ksu_n (by omega)]
      have f2 : ∀ a, a < o + 4 + 7 * t → J' a = J a := fun a ha => by rw [g3 a (by omega), kiu_n (by omega)]
      refine bl_Cb_init_42 (j3 := t) g1.1 ((f1 _ (by omega)).trans t2) ⟨rfl, by omega, by omega⟩ ?_
      rw [nI_1, ru_step]
      have f3 : ∀ a, a < o + 4 + 7 * t → a ≠ o + 3 → kv_su T' (o + 3) (kA 4 4 (fun k => if k < t + 1 then some (o + 4 + 7 * k) else none)) a = T a := fun a ha hne => by rw [ksu_n hne, f1 a ha]
      refine ih (t + 1) _ _ _ _ _ (by omega) (by omega) (by omega) (by omega) ((f3 _ (by omega) (by omega)).trans t0) (RulS_of t1 (fun a c1 c2 => f3 a (by omega) (by omega))) ksu_s ?_ (RuI_of t4 (f2 _ (by omega))) ?_ ?_
      · intro r hr
        by_cases e : r = t
        · subst e
          exact TxtS_of g1 (fun a c1 c2 => ksu_n (by omega))
        · exact TxtS_of (t3 r (by omega)) (fun a c1 c2 => f3 a (by omega) (by omega))
      · intro i hi
        rw [f2 _ (by omega)]
        exact t5 i hi
      · intro r hr a c1 c2 i
        by_cases e : r = t
        · subst e
          exact g4 a c1 c2 i
        · rw [f2 a (by omega)]
          exact t6 r (by omega) a c1 c2 i
  refine bl_Cb_init_0 (dc := 3) (by omega) (by omega) (by omega) (c_Rul_init (a0 := B.1 + n) (by omega) (by omega) ksu_s) (by omega) (by omega) (by omega) (fun v n' S' I' hv => ?_)
  rw [hb] at hv ⊢
  obtain ⟨rfl, rfl, g1, g2, g3, g4, g5⟩ := hv
  have b1 : B.1 + (n + 1 + 1) = o + 3 := by omega
  have e0 : S' o = kO 5 (fun _ => none) := by
    rw [g2 o (by omega), ksu_n (by omega)]
    exact h0
  refine bl_Cb_init_12 e0 (by omega) (by omega) ((ksu_n (by omega)).trans ksu_s) ?_
  rw [b1]
  refine loop 4 0 _ _ _ _ _ (by omega) (by omega) (by omega) (by omega) ksu_s (RulS_of g1 (fun a c1 c2 => ?_)) ?_ (fun r hr => absurd hr (by omega)) (RuI_of g4 (kiu_n (by omega))) ?_ (fun r hr => absurd hr (by omega))
  · rw [ksu_n (by omega), ksu_n (by omega), ksu_n (by omega)]
  · rw [ksu_n (by omega), ksu_s]
    rfl
  · intro i hi
    rw [kiu_n (by omega)]
    exact g5 i hi
theorem mdi_ru {I : kv_IM} {w : Nat} (h : ∀ i, I w i = 0) : RuI (kv_up (kv_up (kv_up (kv_up I w 5 4) w 6 64) w 7 3) w 9 1) w 4 (ruOf 0 4 64 3 0 1) := by
  intro j hj
  have e : j = 0 ∨ j = 1 ∨ j = 2 ∨ j = 3 ∨ j = 4 ∨ j = 5 := by omega
  rcases e with rfl | rfl | rfl | rfl | rfl | rfl
  · rw [up_i (by omega), up_i (by omega), up_i (by omega), up_i (by omega), h]
    decide +kernel
  · rw [up_i (by omega), up_i (by omega), up_i (by omega), up_at]
    decide +kernel
  · rw [up_i (by omega), up_i (by omega), up_at]
    decide +kernel
  · rw [up_i (by omega), up_at]
    decide +kernel
  · rw [up_i (by omega), up_i (by omega), up_i (by omega), up_i (by omega), h]
    decide +kernel
  · rw [up_at]
    decide +kernel
theorem c_Md_init {d : Nat} {B : kv_B} {n : Nat} {S : kv_SM} {I : kv_IM} (hd : 1 ≤ d) {w : Nat} (hb : B.1 + n = w + 1) (h0 : S w = kO 6 (fun _ => none)) (hZ : ∀ i, I w i = 0) :
    kv_T y_Md_init d 13 31441 B [.ref w] n S I (fun v n' S' I' => v = none ∧ n' = n + 13 ∧ MdS S' w ∧ kSf w (w + 13) S S' ∧ kFr w (w + 13) I I' ∧ MdA I' w (ruOf 0 4 64 3 0 1) (kTb 1) (fun _ => 0) (fun _ _ => 0) ∧ StM I' w kS0) := by
  have b1 : B.1 + (n + 1) = w + 2 := by omega
  have b2 : B.1 + (n + 1 + 1) = w + 3 := by omega
  have b3 : B.1 + (n + 1 + 1 + 1) = w + 4 := by omega
  have b4 : B.1 + (n + 1 + 1 + 1 + 1) = w + 5 := by omega
  have b5 : B.1 + (n + 1 + 1 + 1 + 1 + 1) = w + 6 := by omega
  have b6 : B.1 + (n + 1 + 1 + 1 + 1 + 1 + 1) = w + 7 := by omega
  have b7 : B.1 + (n + 1 + 1 + 1 + 1 + 1 + 1 + 1) = w + 8 := by omega
  have b8 : B.1 + (n + 1 + 1 + 1 + 1 + 1 + 1 + 1 + 1) = w + 9 := by omega
  have b9 : B.1 + (n + 1 + 1 + 1 + 1 + 1 + 1 + 1 + 1 + 1) = w + 10 := by omega
  have b10 : B.1 + (n + 1 + 1 + 1 + 1 + 1 + 1 + 1 + 1 + 1 + 1) = w + 11 := by omega
  have b11 : B.1 + (n + 1 + 1 + 1 + 1 + 1 + 1 + 1 + 1 + 1 + 1 + 1) = w + 12 := by omega
  have b12 : B.1 + (n + 1 + 1 + 1 + 1 + 1 + 1 + 1 + 1 + 1 + 1 + 1 + 1) = w + 13 := by omega
  refine kv_T.of (by decide +kernel) rfl (Nat.le_of_ble_eq_true rfl) ?_
  refine bl_Md_init_0 (dc := 0) hd (by omega) (by omega) ((ksu_n (by omega)).trans h0) (by omega) (by omega) ((ksu_n (by omega)).trans ksu_s) (by omega) (by omega) ((ksu_n (by omega)).trans ksu_s) ksu_s (by omega) (by omega) ((ksu_n (by omega)).trans ksu_s) (by omega) (by omega) ((ksu_n (by omega)).trans ksu_s) (by omega) (by omega) ((ksu_n (by omega)).trans ksu_s) (by omega) (by omega) ((ksu_n (by omega)).trans ksu_s) (by omega) (by omega) ((ksu_n (by omega)).trans ksu_s) (by omega) (by omega) ((ksu_n (by omega)).trans ksu_s) (by omega) (by omega) ((ksu_n (by omega)).trans ksu_s) (by omega) (by omega) ((ksu_n (by omega)).trans ksu_s) (by omega) (by omega) ((ksu_n (by omega)).trans ksu_s) (by omega) (by omega) ((ksu_n (by omega)).trans ksu_s) ksu_s (c_Md_layTable 1 ?_ ?_) (by omega) (by omega) (by omega) (fun v n' S' I' hv => ?_)
  · rw [hb, b1, b2, b3, b4, b5, b6, b7, b8, b9, b10, b11, b12, ksu_s, md_ru]
  · rw [hb, b1, b2, b3, b4, b5, b6, b7, b8, b9, b10, b11, b12]
    simp [kv_su]
  · obtain ⟨rfl, rfl, rfl, rfl⟩ := hv
    rw [hb, b1, b2, b3, b4, b5, b6, b7, b8, b9, b10, b11, b12]
    refine bl_Md_init_143 ⟨rfl, rfl, ?_, ?_, ?_, ⟨?_, ?_, ?_⟩, ?_⟩
    · refine ⟨by rw [ksu_s, md_ru], ?_, ?_, ?_, ?_, ?_, ?_, ?_, ?_, ?_, ?_, ?_, ?_, ?_⟩ <;> simp [kv_su]
    · intro a ha
      repeat rw [ksu_n (by omega)]
    · intro a ha
      rw [kFz_ne (by omega)]
      iterate 10 rw [kiu_n (by omega)]
      iterate 4 rw [up_ne (by omega)]
      iterate 3 rw [kiu_n (by omega)]
    · refine RuI_of (mdi_ru (I := kv_iu (kv_iu (kv_iu I (w + 1) (fun _ => 0)) (w + 2) (fun _ => 0)) (w + 3) (fun _ => 0)) (w := w) (fun i => ?_)) ?_
      · iterate 3 rw [kiu_n (by omega)]
        exact hZ i
      · rw [kFz_ne (by omega)]
        iterate 10 rw [kiu_n (by omega)]
    · intro i hi
      exact kFz_at hi
    · intro t ht
      refine ⟨Nat.zero_le _, ?_, fun i hi => absurd hi (Nat.not_lt_zero _)⟩
      rw [kFz_ne (by omega)]
      iterate 10 rw [kiu_n (by omega)]
      iterate 4 rw [up_ne (by omega)]
      rw [kiu_n (by omega), kiu_s]
      rfl
    · refine StM_z ?_ ?_ (fun q => ?_)
      · rw [kFz_ne (by omega)]
        iterate 10 rw [kiu_n (by omega)]
        iterate 4 rw [up_i (by omega)]
        iterate 3 rw [kiu_n (by omega)]
        exact hZ _
      · rw [kFz_ne (by omega)]
        iterate 10 rw [kiu_n (by omega)]
        iterate 4 rw [up_i (by omega)]
        iterate 3 rw [kiu_n (by omega)]
        exact hZ _
      · rw [kFz_ne (by omega), kiu_n (by omega), kiu_n (by omega), kiu_n (by omega), kiu_s]
theorem lwc_all {B : kv_B} {Q : kv_Q} {S : kv_SM} {I : kv_IM} (hN : B.2.2.1 < 2 ^ 31) (hQ : ∀ n S I, Q (some (.int 1)) n S I) : kv_V y_Law_law 9 B Q 76 79620 0 S I 0 [(0, .ref B.2.1)] [] := by
  refine bl_Law_law_0 (dc := 8) (by omega) (by omega) (c_Cb_init (o := B.1 + 0) (by omega) (by omega) ksu_s) (by omega) (by omega) (by omega) (fun v n' S' I' hv => ?_)
  obtain ⟨rfl, rfl, g1, g2, g3⟩ := hv
  refine bl_Law_law_7 (dc := 8) (by omega) (by omega) (c_Md_init (w := B.1 + (0 + 1 + 61)) (by omega) (by omega) ksu_s (fun i => by rw [kiu_s])) (by omega) (by omega) (by omega) (fun v n'' S'' I'' hv => ?_)
  obtain ⟨rfl, rfl, k1, k2, k3, k4, k5⟩ := hv
  refine bl_Law_law_15 ?_
  have e1 : ∀ a, B.1 + 0 ≤ a → a ≤ B.1 + 0 + 61 → S'' a = S' a := fun a c1 c2 => by rw [k2 a (by omega), ksu_n (by omega)]
  have e2 : ∀ a, B.1 + 0 ≤ a → a ≤ B.1 + 0 + 61 → I'' a = I' a := fun a c1 c2 => by rw [k3 a (by omega), kiu_n (by omega)]
  exact lwc_loop (by omega) (by omega) (CbS_of g1 e1) k1 hN (fun I => hQ _ _ I) B.2.2.1 0 I'' (by omega) (by omega) ⟨_, _, _, _, kS0, ruOf_ok ru1_ok, CbA_of g2 (fun a c1 c2 => e2 a (by omega) (by omega)), k4, StC_of g3 (fun a c1 c2 => e2 a (by omega) (by omega)), k5, StK_0⟩
