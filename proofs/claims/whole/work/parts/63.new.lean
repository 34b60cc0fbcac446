def kSf (lo hi : Nat) (S T : kv_SM) : Prop := ∀ a, (a < lo ∨ hi < a) → T a = S a
def kZr (I : kv_IM) (lo hi : Nat) : Prop := ∀ a, lo ≤ a → a ≤ hi → ∀ i, I a i = 0
theorem ksu_s {S : kv_SM} {a : Nat} {x : kv_Sh} : kv_su S a x a = x := if_pos rfl
theorem ksu_n {S : kv_SM} {a b : Nat} {x : kv_Sh} (h : a ≠ b) : kv_su S b x a = S a := if_neg h
theorem kiu_s {I : kv_IM} {a : Nat} {f : Nat → Int32} : kv_iu I a f a = f := if_pos rfl
theorem kiu_n {I : kv_IM} {a b : Nat} {f : Nat → Int32} (h : a ≠ b) : kv_iu I b f a = I a := if_neg h
theorem one_ru {r : Nat} : kv_ru (fun _ => none) 0 (some (r + 1)) = oneR r := by
  funext k
  match k with
  | 0 => rfl
  | k + 1 => simp [kv_ru, oneR]
theorem row_ru {a : Nat} : kv_ru (kv_ru (kv_ru (kv_ru (kv_ru (fun _ => none) 0 (some (a + 1))) 1 (some (a + 2))) 2 (some (a + 3))) 4 (some (a + 4))) 3 (some (a + 5)) = rowR a := by
  funext k
  match k with
  | 0 => rfl
  | 1 => rfl
  | 2 => rfl
  | 3 => rfl
  | 4 => rfl
  | k + 5 => simp [kv_ru, rowR]
theorem sto_ru {a : Nat} : kv_ru (kv_ru (kv_ru (kv_ru (fun _ => none) 0 (some (a + 1))) 1 (some (a + 7))) 2 (some (a + 8))) 3 (some (a + 9)) = stoR a := by
  funext k
  match k with
  | 0 => rfl
  | 1 => rfl
  | 2 => rfl
  | 3 => rfl
  | k + 4 => simp [kv_ru, stoR]
theorem cb_ru {a : Nat} : kv_ru (kv_ru (kv_ru (fun _ => none) 0 (some (a + 1))) 1 (some (a + 3))) 2 (some (a + 32)) = cbR a := by
  funext k
  match k with
  | 0 => rfl
  | 1 => rfl
  | 2 => rfl
  | k + 3 => simp [kv_ru, cbR]
theorem md_ru {w : Nat} : kv_ru (kv_ru (kv_ru (kv_ru (kv_ru (kv_ru (kv_ru (kv_ru (kv_ru (kv_ru (kv_ru (kv_ru (kv_ru (fun _ => none) 1 (some (w + 1))) 2 (some (w + 2))) 3 (some (w + 3))) 10 (some (w + 4))) 12 (some (w + 5))) 14 (some (w + 6))) 17 (some (w + 7))) 18 (some (w + 8))) 19 (some (w + 9))) 20 (some (w + 10))) 21 (some (w + 11))) 22 (some (w + 12))) 23 (some (w + 13)) = mdR w := by
  funext k
  match k with
  | 0 => rfl
  | 1 => rfl
  | 2 => rfl
  | 3 => rfl
  | 4 => rfl
  | 5 => rfl
  | 6 => rfl
  | 7 => rfl
  | 8 => rfl
  | 9 => rfl
  | 10 => rfl
  | 11 => rfl
  | 12 => rfl
  | 13 => rfl
  | 14 => rfl
  | 15 => rfl
  | 16 => rfl
  | 17 => rfl
  | 18 => rfl
  | 19 => rfl
  | 20 => rfl
  | 21 => rfl
  | 22 => rfl
  | 23 => rfl
  | k + 24 => simp [kv_ru, mdR]
theorem ru_step {b st q : Nat} : kv_ru (fun k => if k < q then some (b + st * k) else none) q (some (b + st * q)) = fun k => if k < q + 1 then some (b + st * k) else none := by
  funext k
  simp only [kv_ru]
  by_cases h : k = q
  · subst h
    rw [if_pos rfl, if_pos (by omega)]
  · rw [if_neg h]
    by_cases h2 : k < q
    · rw [if_pos h2, if_pos (by omega)]
    · rw [if_neg h2, if_neg (by omega)]
theorem RowS_of {S T : kv_SM} {r nb nk : Nat} (h : RowS S r nb nk) (e : ∀ a, r ≤ a → a ≤ r + 5 → T a = S a) : RowS T r nb nk := by
  obtain ⟨h0, h1, h2, h3, h4, h5⟩ := h
  exact ⟨(e _ (by omega) (by omega)).trans h0, (e _ (by omega) (by omega)).trans h1, (e _ (by omega) (by omega)).trans h2, (e _ (by omega) (by omega)).trans h3, (e _ (by omega) (by omega)).trans h4, (e _ (by omega) (by omega)).trans h5⟩
theorem RulS_of {S T : kv_SM} {r : Nat} (h : RulS S r) (e : ∀ a, r ≤ a → a ≤ r + 1 → T a = S a) : RulS T r := ⟨(e _ (by omega) (by omega)).trans h.1, (e _ (by omega) (by omega)).trans h.2⟩
theorem SnpS_of {S T : kv_SM} {r : Nat} (h : SnpS S r) (e : ∀ a, r ≤ a → a ≤ r + 1 → T a = S a) : SnpS T r := ⟨(e _ (by omega) (by omega)).trans h.1, (e _ (by omega) (by omega)).trans h.2⟩
theorem TxtS_of {S T : kv_SM} {r : Nat} (h : TxtS S r) (e : ∀ a, r ≤ a → a ≤ r + 6 → T a = S a) : TxtS T r := ⟨(e _ (by omega) (by omega)).trans h.1, RowS_of h.2 (fun a b1 b2 => e a (by omega) (by omega))⟩
theorem StoS_of {S T : kv_SM} {r : Nat} (h : StoS S r) (e : ∀ a, r ≤ a → a ≤ r + 29 → T a = S a) : StoS T r := by
  obtain ⟨h0, h1, h2, h3, h4, h5⟩ := h
  exact ⟨(e _ (by omega) (by omega)).trans h0, RowS_of h1 (fun a b1 b2 => e a (by omega) (by omega)), (e _ (by omega) (by omega)).trans h2, (e _ (by omega) (by omega)).trans h3, (e _ (by omega) (by omega)).trans h4, fun q hq => SnpS_of (h5 q hq) (fun a b1 b2 => e a (by omega) (by omega))⟩
theorem CbS_of {S T : kv_SM} {o : Nat} (h : CbS S o) (e : ∀ a, o ≤ a → a ≤ o + 61 → T a = S a) : CbS T o := by
  obtain ⟨h0, h1, h2, h3, h4⟩ := h
  exact ⟨(e _ (by omega) (by omega)).trans h0, RulS_of h1 (fun a b1 b2 => e a (by omega) (by omega)), (e _ (by omega) (by omega)).trans h2, fun t ht => TxtS_of (h3 t ht) (fun a b1 b2 => e a (by omega) (by omega)), StoS_of h4 (fun a b1 b2 => e a (by omega) (by omega))⟩
theorem c_Snp_init {d : Nat} {B : kv_B} {n : Nat} {S : kv_SM} {I : kv_IM} (hd : 1 ≤ d) {a0 : Nat} (hb : B.1 + n = a0 + 1) (h0 : S a0 = kO 2 (fun _ => none)) (hZ : ∀ i, I a0 i = 0) :
    kv_T y_Snp_init d 1 1500 B [.ref a0] n S I (fun v n' S' I' => v = none ∧ n' = n + 1 ∧ SnpS S' a0 ∧ kSf a0 (a0 + 1) S S' ∧ kFr a0 (a0 + 1) I I' ∧ kZr I' a0 (a0 + 1)) := by
  refine kv_T.of (by decide +kernel) rfl (Nat.le_of_ble_eq_true rfl) ?_
  refine bl_Snp_init_0 hd (by omega) (by omega) ((ksu_n (by omega)).trans h0) ⟨rfl, rfl, ?_, ?_, ?_, ?_⟩
  · rw [hb]
    exact ⟨by rw [ksu_s, one_ru], by rw [ksu_n (by omega), ksu_s]⟩
  · rw [hb]
    intro a ha
    rw [ksu_n (by omega), ksu_n (by omega)]
  · rw [hb]
    intro a ha
    rw [kiu_n (by omega)]
  · rw [hb]
    intro a b1 b2 i
    by_cases e : a = a0 + 1
    · rw [e, kiu_s]
    · rw [kiu_n e, show a = a0 by omega]
      exact hZ i
theorem c_Row_init {d : Nat} {B : kv_B} {n : Nat} {S : kv_SM} {I : kv_IM} (hd : 2 ≤ d) {a0 nb nk : Nat} {v1 v2 : Int32} (x1 : v1 = nI nb) (x2 : v2 = nI nk) (hb : B.1 + n = a0 + 1) (m1 : nb < 100000) (m2 : nk < 100000) (h0 : S a0 = kO 0 (fun _ => none)) (hZ : ∀ i, I a0 i = 0) :
    kv_T y_Row_init d 5 (nb + (nk + 1) + nk + nk + 256) B [.ref a0, .int v1, .int v2] n S I (fun v n' S' I' => v = none ∧ n' = n + 5 ∧ RowS S' a0 nb nk ∧ kSf a0 (a0 + 5) S S' ∧ kFr a0 (a0 + 5) I I' ∧ kZr I' a0 (a0 + 4) ∧ ∀ i, i < 256 → I' (a0 + 5) i = -1) := by
  have b1 : B.1 + (n + 1) = a0 + 2 := by omega
  have b2 : B.1 + (n + 1 + 1) = a0 + 3 := by omega
  have b3 : B.1 + (n + 1 + 1 + 1) = a0 + 4 := by omega
  have b4 : B.1 + (n + 1 + 1 + 1 + 1) = a0 + 5 := by omega
  refine kv_T.of (by decide +kernel) rfl (Nat.le_of_ble_eq_true rfl) ?_
  refine bl_Row_init_0 (N1 := nb) (N3 := nk + 1) (N5 := nk) (N7 := nk) (dc := 1) (by omega) ⟨x1, by omega⟩ (by omega) (by omega) ((ksu_n (by omega)).trans h0) ⟨by rw [x2, nI_1], by omega⟩ (by omega) (by omega) ((ksu_n (by omega)).trans ksu_s) ⟨x2, by omega⟩ (by omega) (by omega) ((ksu_n (by omega)).trans ksu_s) ⟨x2, by omega⟩ (by omega) (by omega) ((ksu_n (by omega)).trans ksu_s) (by omega) (by omega) ((ksu_n (by omega)).trans ksu_s) ksu_s (c_Row_unchain (nb := nb) (nk := nk) (by omega) ?_) (by omega) (by omega) (by omega) (fun v n' S' I' hv => ?_)
  · rw [hb, b1, b2, b3, b4]
    refine ⟨by rw [ksu_s, row_ru], ?_, ?_, ?_, ?_, ?_⟩ <;> simp [kv_su]
  · obtain ⟨rfl, rfl, rfl, rfl⟩ := hv
    rw [hb, b1, b2, b3, b4]
    refine bl_Row_init_47 ⟨rfl, rfl, ?_, ?_, ?_, ?_, ?_⟩
    · refine ⟨by rw [ksu_s, row_ru], ?_, ?_, ?_, ?_, ?_⟩ <;> simp [kv_su]
    · intro a ha
      repeat rw [ksu_n (by omega)]
    · intro a ha
      rw [kFi_ne (by omega)]
      repeat rw [kiu_n (by omega)]
    · intro a c1 c2 i
      rw [kFi_ne (by omega)]
      have hc : a = a0 ∨ a = a0 + 1 ∨ a = a0 + 2 ∨ a = a0 + 3 ∨ a = a0 + 4 := by omega
      rcases hc with e | e | e | e | e <;> rw [e] <;> simp [kv_iu, hZ]
    · intro i hi
      exact kFi_at hi
theorem c_Txt_init {d : Nat} {B : kv_B} {n : Nat} {S : kv_SM} {I : kv_IM} (hd : 3 ≤ d) {a0 : Nat} (hb : B.1 + n = a0 + 1) (h0 : S a0 = kO 4 (fun _ => none)) (hZ : ∀ i, I a0 i = 0) :
    kv_T y_Txt_init d 6 6263 B [.ref a0] n S I (fun v n' S' I' => v = none ∧ n' = n + 6 ∧ TxtS S' a0 ∧ kSf a0 (a0 + 6) S S' ∧ kFr a0 (a0 + 6) I I' ∧ kZr I' a0 (a0 + 5)) := by
  refine kv_T.of (by decide +kernel) rfl (Nat.le_of_ble_eq_true rfl) ?_
  refine bl_Txt_init_0 (dc := 2) (by omega) (by omega) (by omega) (c_Row_init (a0 := B.1 + n) (nb := 1500) (nk := 1500) (by omega) rfl rfl (by omega) (by omega) (by omega) ksu_s (fun i => by rw [kiu_s])) (by omega) (by omega) (by omega) (fun v n' S' I' hv => ?_)
  rw [hb] at hv ⊢
  obtain ⟨rfl, rfl, g1, g2, g3, g4, g5⟩ := hv
  have e0 : S' a0 = kO 4 (fun _ => none) := by
    rw [g2 a0 (by omega), ksu_n (by omega)]
    exact h0
  refine bl_Txt_init_18 e0 ⟨rfl, by omega, ⟨by rw [ksu_s, one_ru], RowS_of g1 (fun a b1 b2 => ksu_n (by omega))⟩, ?_, ?_, ?_⟩
  · intro a ha
    rw [ksu_n (by omega), g2 a (by omega), ksu_n (by omega)]
  · intro a ha
    rw [g3 a (by omega), kiu_n (by omega)]
  · intro a b1 b2 i
    by_cases e : a = a0
    · rw [e, g3 a0 (by omega), kiu_n (by omega)]
      exact hZ i
    · exact g4 a (by omega) (by omega) i
theorem ru1_ok : RuV 0 4 64 3 0 1 := by decide +kernel
theorem c_Rul_init {d : Nat} {B : kv_B} {n : Nat} {S : kv_SM} {I : kv_IM} (hd : 1 ≤ d) {a0 : Nat} (hb : B.1 + n = a0 + 1) (h0 : S a0 = kO 1 (fun _ => none)) :
    kv_T y_Rul_init d 1 256 B [.ref a0] n S I (fun v n' S' I' => v = none ∧ n' = n + 1 ∧ RulS S' a0 ∧ kSf a0 (a0 + 1) S S' ∧ kFr a0 (a0 + 1) I I' ∧ RuI I' a0 1 (ruOf 0 4 64 3 0 1) ∧ ∀ i, i < 256 → I' (a0 + 1) i = kTb 1 i) := by
  refine kv_T.of (by decide +kernel) rfl (Nat.le_of_ble_eq_true rfl) ?_
  have hRS : RulS (kv_su (kv_su S (B.1 + n) (kI 256)) a0 (kO 1 (kv_ru (fun _ => none) 0 (some (B.1 + n))))) a0 := by
    rw [hb]
    exact ⟨by rw [ksu_s, one_ru], by rw [ksu_n (by omega), ksu_s]⟩
  refine bl_Rul_init_0 (dc := 0) hd (by omega) (by omega) ((ksu_n (by omega)).trans h0) ksu_s (c_Rul_sow 1 hRS) (by omega) (by omega) (by omega) (fun v n' S' I' hv => ?_)
  obtain ⟨rfl, rfl, rfl, rfl⟩ := hv
  refine bp_Rul_init_18 (dc := 0) hRS.1 (c_Rul_take 0 4 64 3 0 1 hRS) (by omega) (fun v I' hv => ?_)
  obtain ⟨rfl, rfl⟩ := hv
  refine bl_Rul_init_29 ⟨rfl, rfl, hRS, ?_, ?_, ?_, ?_⟩
  · intro a ha
    rw [ksu_n (by omega), ksu_n (by omega)]
  · intro a ha
    rw [kRu6_ne (by omega), kFz_ne (by omega), kiu_n (by omega)]
  · exact kRu6_ru ru1_ok
  · intro i hi
    rw [kRu6_ne (by omega), kFz_at hi]
theorem c_Sto_init {d : Nat} {B : kv_B} {n : Nat} {S : kv_SM} {I : kv_IM} (hd : 3 ≤ d) {s : Nat} (hb : B.1 + n = s + 1) (h0 : S s = kO 3 (fun _ => none)) (hZ : ∀ i, I s i = 0) :
    kv_T y_Sto_init d 29 22813 B [.ref s] n S I (fun v n' S' I' => v = none ∧ n' = n + 29 ∧ StoS S' s ∧ kSf s (s + 29) S S' ∧ kFr s (s + 29) I I' ∧ (∀ a, s ≤ a → a ≤ s + 29 → a ≠ s + 6 → ∀ i, I' a i = 0) ∧ ∀ i, i < 256 → I' (s + 6) i = -1) := by
  refine kv_T.of (by decide +kernel) rfl (Nat.le_of_ble_eq_true rfl) ?_
  generalize hQQ : (fun (v : Option Value) (n' : Nat) (S' : kv_SM) (I' : kv_IM) => v = none ∧ n' = n + 29 ∧ StoS S' s ∧ kSf s (s + 29) S S' ∧ kFr s (s + 29) I I' ∧ (∀ a, s ≤ a → a ≤ s + 29 → a ≠ s + 6 → ∀ i, I' a i = 0) ∧ ∀ i, i < 256 → I' (s + 6) i = -1) = QQ
  have loop : ∀ (j q n' : Nat) (T : kv_SM) (J : kv_IM) (kc ks : Nat), q + j = 10 → B.1 + n' = s + 10 + 2 * q → 2 * j ≤ kc → 1504 * j ≤ ks → T s = kO 3 (stoR s) → RowS T (s + 1) 6000 300 → T (s + 7) = kI 300 → T (s + 8) = kI 300 → T (s + 9) = kA 2 10 (fun k => if k < q then some (s + 10 + 2 * k) else none) → (∀ r, r < q → SnpS T (s + 10 + 2 * r)) → kSf s (s + 9 + 2 * q) S T → kFr s (s + 9 + 2 * q) I J → (∀ a, s ≤ a → a ≤ s + 9 + 2 * q → a ≠ s + 6 → ∀ i, J a i = 0) → (∀ i, i < 256 → J (s + 6) i = -1) → kv_V y_Sto_init d B QQ kc ks n' T J 50 [(0, .ref s), (1, .int (nI q))] [] := by
    intro j
    induction j with
    | zero =>
      intro q n' T J kc ks hq hn _ _ t0 t1 t2 t3 t4 t5 t6 t7 t8 t9
      have e : q = 10 := by omega
      subst e
      refine bl_Sto_init_50 (fun _ => bl_Sto_init_75 ?_) (fun h => absurd (nI_le (a := 10) (b := 10) (by omega) (by omega)) h)
      rw [← hQQ]
      exact ⟨rfl, by omega, ⟨t0, t1, t2, t3, t4, t5⟩, t6, t7, t8, t9⟩
    | succ j ih =>
      intro q n' T J kc ks hq hn hkc hks t0 t1 t2 t3 t4 t5 t6 t7 t8 t9
      refine bl_Sto_init_50 (fun h => absurd h (nI_ge (a := q) (b := 10) (by omega) (by omega))) (fun _ => ?_)
      refine bl_Sto_init_56 (dc := 1) t0 rfl (by omega) (by omega) (c_Snp_init (a0 := B.1 + n') (by omega) (by omega) ksu_s (fun i => by rw [kiu_s])) (by omega) (by omega) (by omega) (fun v n'' T' J' hv => ?_)
      rw [hn] at hv ⊢
      obtain ⟨rfl, rfl, g1, g2, g3, g4⟩ := hv
      have f1 : ∀ a, a < s + 10 + 2 * q → T' a = T a := fun a ha => by rw [g2 a (by omega), ksu_n (by omega)]
      have f2 : ∀ a, a < s + 10 + 2 * q → J' a = J a := fun a ha => by rw [g3 a (by omega), kiu_n (by omega)]
      refine bl_Sto_init_68 (j3 := q) g1.1 ((f1 _ (by omega)).trans t4) ⟨rfl, by omega, by omega⟩ ?_
      rw [nI_1, ru_step]
      have f3 : ∀ a, a < s + 10 + 2 * q → a ≠ s + 9 → kv_su T' (s + 9) (kA 2 10 (fun k => if k < q + 1 then some (s + 10 + 2 * k) else none)) a = T a := fun a ha hne => by rw [ksu_n hne, f1 a ha]
      refine ih (q + 1) _ _ _ _ _ (by omega) (by omega) (by omega) (by omega) ((f3 _ (by omega) (by omega)).trans t0) (RowS_of t1 (fun a c1 c2 => f3 a (by omega) (by omega))) ((f3 _ (by omega) (by omega)).trans t2) ((f3 _ (by omega) (by omega)).trans t3) ksu_s ?_ ?_ ?_ ?_ ?_
      · intro r hr
        by_cases e : r = q
        · subst e
          exact SnpS_of g1 (fun a c1 c2 => ksu_n (by omega))
        · exact SnpS_of (t5 r (by omega)) (fun a c1 c2 => f3 a (by omega) (by omega))
      · intro a ha
        rw [ksu_n (by omega), g2 a (by omega), ksu_n (by omega)]
        exact t6 a (by omega)
      · intro a ha
        rw [g3 a (by omega), kiu_n (by omega)]
        exact t7 a (by omega)
      · intro a c1 c2 c3 i
        by_cases e : a < s + 10 + 2 * q
        · rw [f2 a e]
          exact t8 a (by omega) (by omega) c3 i
        · exact g4 a (by omega) (by omega) i
      · intro i hi
        rw [f2 _ (by omega)]
        exact t9 i hi
  refine bl_Sto_init_0 (dc := 2) (by omega) (by omega) (by omega) (c_Row_init (a0 := B.1 + n) (nb := 6000) (nk := 300) (by omega) rfl rfl (by omega) (by omega) (by omega) ksu_s (fun i => by rw [kiu_s])) (by omega) (by omega) (by omega) (fun v n' S' I' hv => ?_)
  rw [hb] at hv ⊢
  obtain ⟨rfl, rfl, g1, g2, g3, g4, g5⟩ := hv
  have b1 : B.1 + (n + 1 + 5) = s + 7 := by omega
  have b2 : B.1 + (n + 1 + 5 + 1) = s + 8 := by omega
  have b3 : B.1 + (n + 1 + 5 + 1 + 1) = s + 9 := by omega
  have e0 : S' s = kO 3 (fun _ => none) := by
    rw [g2 s (by omega), ksu_n (by omega)]
    exact h0
  refine bl_Sto_init_18 e0 (by omega) (by omega) ((ksu_n (by omega)).trans ksu_s) (by omega) (by omega) ((ksu_n (by omega)).trans ksu_s) (by omega) (by omega) ((ksu_n (by omega)).trans ksu_s) ?_
  rw [b1, b2, b3, sto_ru]
  refine loop 10 0 _ _ _ _ _ (by omega) (by omega) (by omega) (by omega) ksu_s (RowS_of g1 (fun a c1 c2 => ?_)) ?_ ?_ ?_ (fun r hr => absurd hr (by omega)) ?_ ?_ ?_ ?_
  · repeat rw [ksu_n (by omega)]
  · simp [kv_su]
  · simp [kv_su]
  · simp [kv_su]
  · intro a ha
    repeat rw [ksu_n (by omega)]
    rw [g2 a (by omega), ksu_n (by omega)]
  · intro a ha
    repeat rw [kiu_n (by omega)]
    rw [g3 a (by omega), kiu_n (by omega)]
  · intro a c1 c2 c3 i
    by_cases q1 : a = s
    · rw [q1, kiu_n (by omega), kiu_n (by omega), kiu_n (by omega), g3 s (by omega), kiu_n (by omega)]
      exact hZ i
    by_cases q2 : a ≤ s + 5
    · rw [kiu_n (by omega), kiu_n (by omega), kiu_n (by omega)]
      exact g4 a (by omega) (by omega) i
    have hc : a = s + 7 ∨ a = s + 8 ∨ a = s + 9 := by omega
    rcases hc with e | e | e <;> rw [e] <;> simp [kv_iu]
  · intro i hi
    rw [kiu_n (by omega), kiu_n (by omega), kiu_n (by omega)]
    exact g5 i hi
