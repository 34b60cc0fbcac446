theorem up_ne {I : kv_IM} {a b k : Nat} {x : Int32} (h : a ≠ b) : kv_up I b k x a = I a := by
  funext i
  unfold kv_up
  rw [if_neg h]
theorem up_at {I : kv_IM} {a k : Nat} {x : Int32} : kv_up I a k x a k = x := by
  unfold kv_up
  rw [if_pos rfl, if_pos rfl]
theorem up_i {I : kv_IM} {a k i : Nat} {x : Int32} (h : i ≠ k) : kv_up I a k x a i = I a i := by
  unfold kv_up
  rw [if_pos rfl, if_neg h]
theorem cp_ne {I : kv_IM} {a0 a1 sp dp m a : Nat} (h : a ≠ a1) : kv_cp I a0 a1 sp dp m a = I a := by
  funext i
  unfold kv_cp
  rw [if_neg h]
theorem cp_in {I : kv_IM} {a0 a1 sp dp m i : Nat} (h1 : dp ≤ i) (h2 : i < dp + m) : kv_cp I a0 a1 sp dp m a1 i = I a0 (sp + (i - dp)) := by
  unfold kv_cp
  rw [if_pos rfl]
  exact pk_cpy_in h1 h2
theorem cp_out {I : kv_IM} {a0 a1 sp dp m i : Nat} (h : i < dp ∨ dp + m ≤ i) : kv_cp I a0 a1 sp dp m a1 i = I a1 i := by
  unfold kv_cp
  rw [if_pos rfl]
  exact pk_cpy_out h
def kApX (I : kv_IM) (r r' k c E N src : Nat) : kv_IM := kv_up (kv_cp I (r' + 1) (r + 1) src E N) (r + 3) c (I (r' + 3) k)
def kAp (I : kv_IM) (r r' k c E N src : Nat) : kv_IM := kv_up (kv_up (kChn (kApX I r r' k c E N src) r c (kKN (I (r' + 3) k))) (r + 2) (c + 1) (nI (E + N))) r 5 (nI (c + 1))
theorem c_Row_append {d : Nat} {B : kv_B} {n : Nat} {S : kv_SM} {I : kv_IM} (hd : 1 ≤ d) {r nb nk r' nb' nk' k c E N src : Nat} (hS : RowS S r nb nk) (hS' : RowS S r' nb' nk') (hn : nk < 2 ^ 20) (hb : nb < 2 ^ 20) (hn' : nk' < 2 ^ 20) (hb' : nb' < 2 ^ 20) (h0 : 0 < nb) (h0' : 0 < nb') (hrr : r = r' ∨ r + 6 ≤ r' ∨ r' + 6 ≤ r) (hc : I r 5 = nI c) (hcn : c < nk) (hE : I (r + 2) c = nI E) (hk : k < nk') (hs : I (r' + 2) k = nI src) (hN : I (r' + 2) (k + 1) = nI (src + N)) (hs2 : src + N ≤ nb') (hE2 : E + N ≤ nb) :
    kv_P y_Row_append d B [.ref r, .ref r', .int (nI k)] n S I (kQv (kAp I r r' k c E N src)) := by
  obtain ⟨s0, s1, s2, s3, s4, s5⟩ := id hS
  obtain ⟨s0', s1', s2', s3', s4', s5'⟩ := id hS'
  refine kv_P.of (by decide +kernel) rfl (Nat.le_of_ble_eq_true rfl) ?_
  refine bp_Row_append_0 (dc := 0) s0' (c_Row_bytesOf hS' hn' hk) (by omega) (fun v J hv => ?_)
  obtain ⟨rfl, rfl⟩ := hv
  have eN : I (r' + 2) (k + 1) - I (r' + 2) k = nI N := by
    rw [hN, hs, pk_sub (by omega)]
    congr 1
    omega
  rw [eN]
  refine bp_Row_append_5 (dc := 0) s0' rfl rfl s2' ⟨rfl, by omega, by omega⟩ s0 rfl (c_Row_end hS hn hc (by omega)) (by omega) (fun v J hv => ?_)
  obtain ⟨rfl, rfl⟩ := hv
  rw [hE, hs]
  have e5 : kv_cp I (r' + 1) (r + 1) src E N r 5 = nI c := by rw [cp_ne (by omega)]; exact hc
  have e3 : kv_cp I (r' + 1) (r + 1) src E N (r' + 3) = I (r' + 3) := cp_ne (by omega)
  have ex : kv_up (kv_cp I (r' + 1) (r + 1) src E N) (r + 3) c (kv_cp I (r' + 1) (r + 1) src E N (r' + 3) k) = kApX I r r' k c E N src := by
    rw [e3]
    rfl
  have ec : kApX I r r' k c E N src r 5 = nI c := by
    unfold kApX
    rw [up_ne (by omega)]
    exact e5
  have ek : kApX I r r' k c E N src (r + 3) c = I (r' + 3) k := up_at
  refine bp_Row_append_24 (dc := 0) (by omega) s1' s1 (sp3 := src) (dp3 := E) (N3 := N) ⟨⟨h0', h0, by omega, by omega⟩, ⟨rfl, rfl, rfl⟩, hs2, hE2⟩ s0 rfl s0' rfl s3' (j9 := k) ⟨rfl, hk, by omega⟩ s3 (j11 := c) ⟨e5, hcn, by omega⟩ (by
    rw [ex, ec]
    exact c_Row_chain hS hn hcn) (by omega) (fun v J hv => ?_)
  obtain ⟨rfl, rfl⟩ := hv
  rw [ek]
  have e5' : kChn (kApX I r r' k c E N src) r c (kKN (I (r' + 3) k)) r 5 = nI c := by
    rw [kChn_ne (by omega) (by omega)]
    exact ec
  have eE' : kChn (kApX I r r' k c E N src) r c (kKN (I (r' + 3) k)) (r + 2) c = nI E := by
    rw [kChn_ne (by omega) (by omega)]
    unfold kApX
    rw [up_ne (by omega), cp_ne (by omega)]
    exact hE
  refine bp_Row_append_51 (dc := 0) s0 (c_Row_end hS hn e5' (by omega)) (by omega) (fun v J hv => ?_)
  obtain ⟨rfl, rfl⟩ := hv
  rw [eE']
  refine bp_Row_append_56 (dc := 0) s0 (by
    rw [nI_add]
    exact c_Row_close _ hS hn e5' hcn) (by omega) (fun v J hv => ?_)
  obtain ⟨rfl, rfl⟩ := hv
  exact bl_Row_append_61 ⟨rfl, rfl, rfl, rfl⟩
theorem kAp_fr {I : kv_IM} {r r' k c E N src a : Nat} (h : a < r ∨ r + 5 < a) : kAp I r r' k c E N src a = I a := by
  unfold kAp kApX
  rw [up_ne (by omega), up_ne (by omega), kChn_ne (by omega) (by omega), up_ne (by omega), cp_ne (by omega)]
theorem kAp_5 {I : kv_IM} {r r' k c E N src : Nat} : kAp I r r' k c E N src r 5 = nI (c + 1) := by
  unfold kAp
  exact up_at
theorem kAp_1 {I : kv_IM} {r r' k c E N src : Nat} : kAp I r r' k c E N src (r + 1) = kv_cp I (r' + 1) (r + 1) src E N (r + 1) := by
  unfold kAp kApX
  rw [up_ne (by omega), up_ne (by omega), kChn_ne (by omega) (by omega), up_ne (by omega)]
theorem kAp_2 {I : kv_IM} {r r' k c E N src i : Nat} : kAp I r r' k c E N src (r + 2) i = if i = c + 1 then nI (E + N) else I (r + 2) i := by
  unfold kAp
  rw [up_ne (by omega)]
  by_cases h : i = c + 1
  · rw [if_pos h, h]
    exact up_at
  · rw [if_neg h, up_i h, kChn_ne (by omega) (by omega)]
    unfold kApX
    rw [up_ne (by omega), cp_ne (by omega)]
theorem kAp_3 {I : kv_IM} {r r' k c E N src i : Nat} : kAp I r r' k c E N src (r + 3) i = if i = c then I (r' + 3) k else I (r + 3) i := by
  unfold kAp
  rw [up_ne (by omega), up_ne (by omega), kChn_ne (by omega) (by omega)]
  unfold kApX
  by_cases h : i = c
  · rw [if_pos h, h]
    exact up_at
  · rw [if_neg h, up_i h, cp_ne (by omega)]
theorem kAp_row {I : kv_IM} {r nb nk r' k c src : Nat} {F P : Nat → Nat} {L : Nat → List Nat} (hR : kRow I r nb nk F P c) (hX : kIx I r F P c L) (hL : ∀ j, j < c → j ∈ L (kKey F P j)) (hcn : c < nk) (hP : P c < P (c + 1)) (hP2 : P (c + 1) ≤ nb) (hsrc : ∀ i, i < P (c + 1) - P c → I (r' + 1) (src + i) = nI (F (P c + i)) ∧ F (P c + i) < 256) (hsum : I (r' + 3) k = kFnv F (P c) (P (c + 1) - P c)) :
    kRow (kAp I r r' k c (P c) (P (c + 1) - P c) src) r nb nk F P (c + 1) ∧ ∃ L', kIx (kAp I r r' k c (P c) (P (c + 1) - P c) src) r F P (c + 1) L' ∧ ∀ j, j < c + 1 → j ∈ L' (kKey F P j) := by
  obtain ⟨r0, r1, r2, r3, r4, r5⟩ := id hR
  refine ⟨⟨kAp_5, by omega, fun i hi => ?_, fun i hi => ?_, hP2, fun i hi => ?_⟩, ?_⟩
  · rw [kAp_2]
    by_cases h : i = c + 1
    · rw [if_pos h, h]
      congr 1
      omega
    · rw [if_neg h]
      exact r2 i (by omega)
  · by_cases h : i = c
    · rw [h]; exact hP
    · exact r3 i (by omega)
  · rw [Nat.zero_add, kAp_1]
    by_cases h : i < P c
    · rw [cp_out (Or.inl h)]
      have t := r5 i h
      rw [Nat.zero_add] at t
      exact t
    · rw [cp_in (by omega) (by omega)]
      have t := hsrc (i - P c) (by omega)
      rw [show P c + (i - P c) = i by omega] at t
      exact t
  · have hX1 : kIx (kApX I r r' k c (P c) (P (c + 1) - P c) src) r F P c L := by
      refine kIx_of hX (fun j hj => ?_) ?_ ?_
      · unfold kApX
        rw [up_i (by omega), cp_ne (by omega)]
      · unfold kApX
        rw [up_ne (by omega), cp_ne (by omega)]
      · unfold kApX
        rw [up_ne (by omega), cp_ne (by omega)]
    have hs1 : kApX I r r' k c (P c) (P (c + 1) - P c) src (r + 3) c = kFnv F (P c) (P (c + 1) - P c) := by
      unfold kApX
      rw [up_at]
      exact hsum
    have hX2 := kIx_chain hX1 hs1
    have ek : kKN (I (r' + 3) k) = kKey F P c := by
      rw [hsum]
      rfl
    refine ⟨_, kIx_of hX2 (fun j hj => ?_) ?_ ?_, fun j hj => ?_⟩
    · unfold kAp
      rw [up_ne (by omega), up_ne (by omega), ek]
    · unfold kAp
      rw [up_ne (by omega), up_ne (by omega), ek]
    · unfold kAp
      rw [up_ne (by omega), up_ne (by omega), ek]
    · show j ∈ (if kKey F P j = kKey F P c then c :: L (kKey F P j) else L (kKey F P j))
      by_cases h : j = c
      · rw [h, if_pos rfl]
        exact List.mem_cons_self
      · have := hL j (by omega)
        split
        · exact List.mem_cons_of_mem _ this
        · exact this
theorem kRow_congr {I : kv_IM} {r nb nk : Nat} {f p F P : Nat → Nat} {c : Nat} (h : kRow I r nb nk f p c) (hP : ∀ k, k ≤ c → P k = p k) (hF : ∀ x, x < p c → F x = f x) : kRow I r nb nk F P c := by
  obtain ⟨r0, r1, r2, r3, r4, r5⟩ := h
  refine ⟨r0, r1, fun k hk => by rw [hP k hk]; exact r2 k hk, fun k hk => by rw [hP k (by omega), hP (k + 1) (by omega)]; exact r3 k hk, by rw [hP c (Nat.le_refl _)]; exact r4, fun i hi => ?_⟩
  rw [hP c (Nat.le_refl _)] at hi
  rw [hF i hi]
  exact r5 i hi
theorem kFnv_cg {f p F P : Nat → Nat} {c j : Nat} (hinc : ∀ k, k < c → p k < p (k + 1)) (hP : ∀ k, k ≤ c → P k = p k) (hF : ∀ x, x < p c → F x = f x) (hj : j < c) : kFnv F (P j) (P (j + 1) - P j) = kFnv f (p j) (p (j + 1) - p j) := by
  rw [hP j (by omega), hP (j + 1) (by omega)]
  have m1 := hinc j hj
  have m2 := kMon hinc (i := j + 1) (k := c) (by omega) (Nat.le_refl _)
  exact kFnv_congr (fun i hi => hF _ (by omega))
theorem kKey_cg {f p F P : Nat → Nat} {c j : Nat} (hinc : ∀ k, k < c → p k < p (k + 1)) (hP : ∀ k, k ≤ c → P k = p k) (hF : ∀ x, x < p c → F x = f x) (hj : j < c) : kKey F P j = kKey f p j := by
  unfold kKey
  rw [kFnv_cg hinc hP hF hj]
theorem kIx_cg {I : kv_IM} {r : Nat} {f p F P : Nat → Nat} {c : Nat} {L : Nat → List Nat} (hinc : ∀ k, k < c → p k < p (k + 1)) (hP : ∀ k, k ≤ c → P k = p k) (hF : ∀ x, x < p c → F x = f x) (h : kIx I r f p c L) : kIx I r F P c L := by
  refine ⟨fun j hj => by rw [kFnv_cg hinc hP hF hj]; exact h.1 j hj, fun key hkey => ?_⟩
  obtain ⟨y1, y2, y3⟩ := h.2 key hkey
  exact ⟨y1, y2, fun k hk => by rw [kKey_cg hinc hP hF (kDec_mem y2 k hk)]; exact y3 k hk⟩
theorem StR_cg {I : kv_IM} {s c : Nat} {f p F P : Nat → Nat} (h : StR I s c p f) (hP : ∀ k, k ≤ c → P k = p k) (hF : ∀ x, x < p c → F x = f x) : StR I s c P F := by
  obtain ⟨h1, L, h2, h3⟩ := h
  have hinc := h1.2.2.2.1
  exact ⟨kRow_congr h1 hP hF, L, kIx_cg hinc hP hF h2, fun j hj => by rw [kKey_cg hinc hP hF hj]; exact h3 j hj⟩
