def kAb (c0 : Nat) : Nat → Bool := fun j => decide (j < c0)
theorem kAb_t {c0 j : Nat} (h : j < c0) : kAb c0 j = true := decide_eq_true h
theorem kAb_f {c0 j : Nat} (h : c0 ≤ j) : kAb c0 j = false := decide_eq_false (by omega)
theorem kNu_b {c0 : Nat} : ∀ {m : Nat}, m ≤ c0 → kNu (kAb c0) m = m
  | 0, _ => rfl
  | m + 1, h => by rw [kNu_t (kAb_t (by omega)), kNu_b (by omega)]
theorem kNu_b' {c0 : Nat} : ∀ {m : Nat}, c0 ≤ m → kNu (kAb c0) m = c0
  | 0, h => by rw [show c0 = 0 by omega]; rfl
  | m + 1, h => by
    by_cases e : c0 = m + 1
    · rw [e]; exact kNu_b (Nat.le_refl _)
    · rw [kNu_f (kAb_f (by omega)), kNu_b' (by omega)]
theorem kBack {J : kv_IM} {s c0 c : Nat} {p0 f0 p f u tf tp gg : Nat → Nat} {th : Nat → Bool} {z : Nat → Nat} {g : Nat → Nat → Nat} {k : Nat} (hK : StK (c0, p0, f0, u, th, z, g)) (hI : kKI tf tp c0 p0 f0 k (c, p, f, gg)) (hC : StC J s (kCmp (kAb c0) (c, p, f, fun m => if m < c0 then u m else 0, th, z, g))) : StC J s (c0, p0, f0, u, th, z, g) := by
  obtain ⟨h1, h2, h3, h4, h5, h6, h7, h8, h9⟩ := hI
  obtain ⟨k1, k2, k3, k4, k5, k6, k7⟩ := hK
  have p00 : p 0 = 0 := by rw [h6 0 (by omega)]; exact k2
  have eP : ∀ m, m ≤ c0 → kPn (kAb c0) c p m = p m := by
    intro m hm
    have e := kPn_at (A := kAb c0) (p := p) (c := c) (k := m) (by omega)
    rw [kNu_b hm, kQu_full p00 h3 m (by omega) (kNu_b hm)] at e
    exact e
  have hC' : StC J s (c0, kPn (kAb c0) c p, kFn (kAb c0) c p f, kUn (kAb c0) c (fun m => if m < c0 then u m else 0), th, z, kGn (kAb c0) g) := by
    have e : kNu (kAb c0) c = c0 := kNu_b' h1
    have h : StC J s (kNu (kAb c0) c, kPn (kAb c0) c p, kFn (kAb c0) c p f, kUn (kAb c0) c (fun m => if m < c0 then u m else 0), th, z, kGn (kAb c0) g) := hC
    rw [e] at h
    exact h
  refine StC_cg hC' (fun m hm => by rw [eP m hm, h6 m hm]) (fun y hy => ?_) (fun m hm => ?_) (fun q hq ht i hi => ?_)
  · rw [eP c0 (Nat.le_refl _)] at hy
    have hy2 : y < kQu (kAb c0) p c0 := by
      rw [kQu_full p00 h3 c0 h1 (kNu_b (Nat.le_refl _))]
      exact hy
    obtain ⟨j, i, x1, x2, x3, x4⟩ := kQu_byte hy2
    rw [x4, kFn_at (by omega) x2 x3, kQu_full p00 h3 j (by omega) (kNu_b (by omega))]
    refine (h7 _ ?_).symm
    have m1 := h3 j (by omega)
    have m2 := kMon h3 (i := j + 1) (k := c0) (by omega) h1
    have eb : kBl p j = p (j + 1) - p j := rfl
    rw [← h6 c0 (Nat.le_refl _)]
    omega
  · have e := kUn_at (A := kAb c0) (c := c) (u := fun m => if m < c0 then u m else 0) (j := m) (by omega) (kAb_t hm)
    rw [kNu_b (by omega)] at e
    rw [e]
    exact (if_pos hm).symm
  · have hg := (k6 q hq ht).2.1 i hi
    refine ⟨?_, hg⟩
    show g q i = kNu (kAb c0) (g q i)
    rw [kNu_b (by omega)]
theorem c_Sto_takeIn {d : Nat} {B : kv_B} {n : Nat} {S : kv_SM} {I : kv_IM} (hd : 3 ≤ d) {s x N : Nat} {c0 : Nat} {p0 f0 u : Nat → Nat} {th : Nat → Bool} {z : Nat → Nat} {g : Nat → Nat → Nat} {tf tp : Nat → Nat} (hS : StoS S s) (hX : RowS S x 1500 1500) (hxs : x + 6 ≤ s) (hC : StC I s (c0, p0, f0, u, th, z, g)) (hK : StK (c0, p0, f0, u, th, z, g)) (hR' : kRow I x 1500 1500 tf tp N) (hsum' : ∀ k, k < N → I (x + 3) k = kFnv tf (tp k) (tp (k + 1) - tp k)) (htp0 : tp 0 = 0) :
    kv_P y_Sto_takeIn d B [.ref s, .ref x] n S I (fun v J => v = some (.int (sKeep (c0, p0, f0, u, th, z, g) tf tp N).1) ∧ (∀ a, (a < s + 1 ∨ s + 29 < a) → J a = I a) ∧ StC J s (sKeep (c0, p0, f0, u, th, z, g) tf tp N).2) := by
  obtain ⟨s0, s1, s2, s3, s4, s5⟩ := id hS
  obtain ⟨c1, c2, c3⟩ := id hC
  obtain ⟨k1, k2, k3, k4, k5, k6, k7⟩ := id hK
  obtain ⟨f1, f2, f3⟩ := kFree_sp (th := th)
  have hN := hR'.2.1
  have hinc' := hR'.2.2.2.1
  refine kv_P.of (by decide +kernel) rfl (Nat.le_of_ble_eq_true rfl) ?_
  refine bp_Sto_takeIn_0 (dc := 0) s0 (c_Sto_leastFree hS (fun q hq => (c3 q hq).1)) (by omega) (fun v J hv => ?_)
  obtain ⟨rfl, rfl⟩ := hv
  by_cases h10 : kFree th = 10
  · have e : sKeep (c0, p0, f0, u, th, z, g) tf tp N = (-2, (c0, p0, f0, u, th, z, g)) := if_pos h10
    rw [e]
    refine bl_Sto_takeIn_4 (fun h => absurd (if_pos h10) h) (fun _ => ?_)
    exact bl_Sto_takeIn_10 ⟨rfl, rfl, rfl, fun _ _ => rfl, hC⟩
  have hq : kFree th < 10 := by omega
  have hfq := f3 hq
  have ev : kFv 10 (kFree th) = nI (kFree th) := if_neg h10
  have eK : sKeep (c0, p0, f0, u, th, z, g) tf tp N = (match kKp tf tp c0 p0 f0 N with
    | none => (-2, (c0, p0, f0, u, th, z, g))
    | some (c', p', f', g') => (nI (kFree th), (c', p', f', fun k => (if k < c0 then u k else 0) + kCt g' N k, kU th (kFree th) true, kU z (kFree th) N, kU g (kFree th) g'))) := if_neg h10
  rw [ev, eK]
  generalize kFree th = q at *
  refine bl_Sto_takeIn_4 (fun _ => ?_) (fun h => absurd h (nI_nm1 (by omega)))
  refine bl_Sto_takeIn_13 s0 rfl s4 ⟨rfl, hq, by omega⟩ (snpA_k hq) ?_
  generalize hQQ : kv_PQ n S (fun v J => v = some (.int (match kKp tf tp c0 p0 f0 N with
    | none => ((-2, (c0, p0, f0, u, th, z, g)) : Int32 × kSt)
    | some (c', p', f', g') => (nI q, (c', p', f', fun k => (if k < c0 then u k else 0) + kCt g' N k, kU th q true, kU z q N, kU g q g'))).1) ∧ (∀ a, (a < s + 1 ∨ s + 29 < a) → J a = I a) ∧ StC J s (match kKp tf tp c0 p0 f0 N with
    | none => ((-2, (c0, p0, f0, u, th, z, g)) : Int32 × kSt)
    | some (c', p', f', g') => (nI q, (c', p', f', fun k => (if k < c0 then u k else 0) + kCt g' N k, kU th q true, kU z q N, kU g q g'))).2) = QQ
  obtain ⟨x0, x1⟩ := s5 q hq
  have loop : ∀ (j k : Nat) (J : kv_IM) (c : Nat) (p f gg : Nat → Nat), k + j = N → kKp tf tp c0 p0 f0 k = some (c, p, f, gg) → (∀ a, (a < s + 1 ∨ (s + 7 < a ∧ a ≠ s + 10 + 2 * q + 1)) → J a = I a) → StR J s c p f → (∀ m, m < c → J (s + 7) m = nI (if m < c0 then u m else 0)) → (∀ i, i < k → J (s + 10 + 2 * q + 1) i = nI (gg i)) → kv_V y_Sto_takeIn d B QQ 0 0 n S J 23 [(0, .ref s), (1, .ref x), (2, .int (nI q)), (3, .ref (s + 10 + 2 * q)), (4, .int (nI k))] [] := by
    intro j
    induction j with
    | zero =>
      intro k J c p f gg hk hst hF hR hP hG
      have hk' : k = N := by omega
      subst hk'
      obtain ⟨h1, h2, h3, h4, h5, h6, h7, h8, h9⟩ := kKI_all k1 k3 k4 k5 hinc' (Nat.le_refl _) hst
      have e5 : J x 5 = nI k := by rw [hF x (by omega)]; exact hR'.1
      have eend : tp k = kSl p gg k := by
        have := kSl_tp hinc' (fun i hi => (h8 i hi).2)
        omega
      refine bl_Sto_takeIn_23 hX.1 (fun _ => ?_) (fun h => absurd (by rw [e5]; exact nI_le (Nat.le_refl _) (by omega)) h)
      have eu : kv_up J (s + 10 + 2 * q) 1 (J x 5) x = J x := up_ne (by omega)
      refine bp_Sto_takeIn_105 (dc := 0) hX.1 x0 (c_Row_end hX (by omega) (c := k) (by rw [eu]; exact e5) hN) (by omega) (fun v M hv => ?_)
      obtain ⟨rfl, rfl⟩ := hv
      have ee : kv_up J (s + 10 + 2 * q) 1 (J x 5) (x + 2) k = nI (tp k) := by
        rw [up_ne (by omega), hF _ (by omega)]
        exact hR'.2.2.1 k (Nat.le_refl _)
      rw [ee]
      generalize hM : kv_up (kv_up (kv_up J (s + 10 + 2 * q) 1 (J x 5)) (s + 10 + 2 * q) 2 (nI (tp k))) (s + 10 + 2 * q) 3 1 = M
      have M0 : ∀ a, a ≠ s + 10 + 2 * q → M a = J a := by
        intro a ha
        rw [← hM, up_ne ha, up_ne ha, up_ne ha]
      have M1 : M (s + 10 + 2 * q) 1 = nI k := by
        rw [← hM, up_i (by omega), up_i (by omega), up_at]
        exact e5
      have M2 : M (s + 10 + 2 * q) 2 = nI (tp k) := by
        rw [← hM, up_i (by omega), up_at]
      have M3 : M (s + 10 + 2 * q) 3 = 1 := by
        rw [← hM, up_at]
      refine bp_Sto_takeIn_118 (dc := 0) x0 x0 s0 (by
        rw [hM]
        exact c_Sto_countPlaces (gg := gg) 1 hS hq M1 hN (fun i hi => ⟨by rw [M0 _ (by omega)]; exact hG i hi, by have := (h8 i hi).1; omega⟩)) (by omega) (fun v K hv => ?_)
      obtain ⟨rfl, hKF, hKN⟩ := hv
      rw [← hQQ, hst]
      have KJ : ∀ a, a ≠ s + 7 → a ≠ s + 10 + 2 * q → K a = J a := fun a a1 a2 => by rw [hKF a a1, M0 a a2]
      refine bl_Sto_takeIn_132 ⟨rfl, rfl, rfl, fun a ha => by rw [KJ a (by omega) (by omega), hF a (by omega)], StR_of hR (fun a a1 a2 => KJ a (by omega) (by omega)), fun m hm => ?_, fun q' hq' => ?_⟩
      · rw [hKN, M0 _ (by omega), hP m hm, Int32.mul_one, nI_add]
      · by_cases e : q' = q
        · subst e
          have e0 : K (s + 10 + 2 * q') = M (s + 10 + 2 * q') := hKF _ (by omega)
          refine ⟨by rw [e0, M3, kU_s]; rfl, fun _ => ?_⟩
          rw [kU_s, kU_s]
          refine ⟨by rw [e0]; exact M1, by rw [e0, M2, eend], fun i hi => ?_⟩
          rw [KJ _ (by omega) (by omega)]
          exact hG i hi
        · obtain ⟨y1, y2⟩ := c3 q' hq'
          have e0 : K (s + 10 + 2 * q') = I (s + 10 + 2 * q') := by rw [KJ _ (by omega) (by omega), hF _ (by omega)]
          have e1 : K (s + 10 + 2 * q' + 1) = I (s + 10 + 2 * q' + 1) := by rw [KJ _ (by omega) (by omega), hF _ (by omega)]
          refine ⟨by rw [e0, kU_n e]; exact y1, fun ht => ?_⟩
          rw [kU_n e] at ht
          obtain ⟨y3, y4, y5⟩ := y2 ht
          rw [e0, e1, kU_n e, kU_n e]
          refine ⟨y3, ?_, y5⟩
          rw [y4, kSl_pc h6 (k6 q' hq' ht).2.1]
    | succ j ih =>
      intro k J c p f gg hk hst hF hR hP hG
      have hkN : k < N := by omega
      have hKI := kKI_all k1 k3 k4 k5 hinc' (by omega) hst
      obtain ⟨h1, h2, h3, h4, h5, h6, h7, h8, h9⟩ := id hKI
      have e5 : J x 5 = nI N := by rw [hF x (by omega)]; exact hR'.1
      have hRx : kRow J x 1500 1500 tf tp N := kRow_of hR' (hF _ (by omega)) (hF _ (by omega)) (hF _ (by omega))
      have esum : J (x + 3) k = kFnv tf (tp k) (tp (k + 1) - tp k) := by rw [hF _ (by omega)]; exact hsum' k hkN
      have hstep : kKp tf tp c0 p0 f0 (k + 1) = kKs tf tp k (c, p, f, gg) := by rw [kKp, hst]; rfl
      have m1 := hinc' k hkN
      have m2 := kMon hinc' (i := k + 1) (k := N) (by omega) (Nat.le_refl _)
      have m3 := hR'.2.2.2.2.1
      have eb : kBl tp k = tp (k + 1) - tp k := rfl
      have hle := kFd_le (f := f) (p := p) (c := c) (tf := tf) (tp := tp) (k := k)
      refine bl_Sto_takeIn_23 hX.1 (fun h => absurd h (by rw [e5]; exact nI_ge (by omega) (by omega))) (fun _ => ?_)
      refine bp_Sto_takeIn_32 (dc := 2) s0 rfl s1.1 (c_find (by omega) hS hR h5 hX hRx hkN esum) (by omega) (fun v M hv => ?_)
      obtain ⟨rfl, rfl⟩ := hv
      by_cases hc : kFd f p c tf tp k = c
      · have efv : kFv c (kFd f p c tf tp k) = -1 := if_pos hc
        rw [efv]
        refine bl_Sto_takeIn_42 (fun h => absurd rfl h) (fun _ => ?_)
        refine bp_Sto_takeIn_50 (dc := 0) s0 rfl hX.1 (c_Row_bytesOf hX (by omega) (by omega)) (by omega) (fun v M hv => ?_)
        obtain ⟨rfl, rfl⟩ := hv
        rw [hRx.2.2.1 _ (by omega), hRx.2.2.1 _ (by omega), pk_sub (by omega)]
        refine bp_Sto_takeIn_60 (dc := 1) s1.1 (c_Row_hasRoomFor (c := c) (E := p c) (by omega) s1 (by omega) (by omega) (by omega) (by omega) hR.1.1 (by omega) (hR.1.2.2.1 _ (Nat.le_refl _)) h4 (by omega)) (by omega) (fun v M hv => ?_)
        obtain ⟨rfl, rfl⟩ := hv
        refine bl_Sto_takeIn_63 (fun h => ?_) (fun h => ?_)
        · have hroom := Classical.not_not.mp (fun r => h (kB_e0.mpr r))
          refine bl_Sto_takeIn_74 x0 rfl (fun h => absurd rfl h) (fun _ => ?_)
          refine bp_Sto_takeIn_86 (dc := 2) s0 (c_Sto_takeInNew (by omega) hS hX hxs hR hRx hkN (by omega) (by omega)) (by omega) (fun v M hv => ?_)
          obtain ⟨rfl, rfl⟩ := hv
          refine bl_Sto_takeIn_93 (bl_Sto_takeIn_98 x1 (j2 := k) ⟨rfl, by omega, by omega⟩ ?_)
          rw [nI_1]
          have hnew : kKp tf tp c0 p0 f0 (k + 1) = some (c + 1, kU p (c + 1) (p c + kBl tp k), fun x => if x < p c then f x else tf (tp k + (x - p c)), kU gg k c) := by
            rw [hstep]
            show (if kFd f p c tf tp k = c then _ else _) = _
            rw [if_pos hc]
            show (if c = 300 ∨ 6000 < p c + kBl tp k then _ else _) = _
            rw [if_neg (by omega)]
          have pc1 : kU p (c + 1) (p c + kBl tp k) (c + 1) = p c + kBl tp k := kU_s
          have pcm : ∀ m, m ≤ c → kU p (c + 1) (p c + kBl tp k) m = p m := fun m hm => kU_n (by omega)
          generalize hP' : kU p (c + 1) (p c + kBl tp k) = p' at *
          have hFm : ∀ y, y < p c → (fun x => if x < p c then f x else tf (tp k + (x - p c))) y = f y := fun y hy => if_pos hy
          have hFn : ∀ i, (fun x => if x < p c then f x else tf (tp k + (x - p c))) (p c + i) = tf (tp k + i) := by
            intro i
            show (if p c + i < p c then _ else tf (tp k + (p c + i - p c))) = _
            rw [if_neg (by omega)]
            congr 1
            omega
          generalize hF' : (fun x => if x < p c then f x else tf (tp k + (x - p c))) = f' at *
          have hRe : StR (kv_up J (s + 7) c 0) s c p' f' := StR_of (StR_cg hR pcm hFm) (fun a a1 a2 => up_ne (by omega))
          obtain ⟨z1, L, z2, z3⟩ := hRe
          have ec : p' c = p c := pcm c (Nat.le_refl _)
          have eN : p' (c + 1) - p' c = kBl tp k := by omega
          have hap := kAp_row (k := k) (src := tp k) (r' := x) z1 z2 z3 (by omega) (by omega) (by omega) (fun i hi => by
            rw [up_ne (by omega), ec, hFn i]
            have t := hRx.2.2.2.2.2 (tp k + i) (by omega)
            rw [Nat.zero_add] at t
            exact t) (by
            rw [up_ne (by omega), esum, eN, ec]
            exact (kFnv_congr (fun i hi => hFn i)).symm)
          rw [eN, ec] at hap
          obtain ⟨w1, L', w2, w3⟩ := hap
          refine ih (k + 1) _ (c + 1) p' f' (kU gg k c) (by omega) hnew (fun a ha => ?_) ?_ (fun m hm => ?_) (fun i hi => ?_)
          · rw [up_ne (by omega), kAp_fr (by omega), up_ne (by omega)]
            exact hF a ha
          · exact StR_of ⟨w1, L', w2, w3⟩ (fun a a1 a2 => up_ne (by omega))
          · rw [up_ne (by omega), kAp_fr (by omega)]
            by_cases e : m = c
            · rw [e, up_at, if_neg (by omega)]
              rfl
            · rw [up_i e]
              exact hP m (by omega)
          · by_cases e : i = k
            · rw [e, up_at, kU_s]
            · rw [up_i e, kAp_fr (by omega), up_ne (by omega), kU_n e]
              exact hG i (by omega)
        · have hroom : c = 300 ∨ 6000 < p c + kBl tp k := Classical.not_not.mp (kB_e0.mp h)
          have hnone : kKp tf tp c0 p0 f0 N = none := by
            refine kKp_none (k := k + 1) ?_ (by omega)
            rw [hstep]
            show (if kFd f p c tf tp k = c then _ else _) = _
            rw [if_pos hc]
            show (if c = 300 ∨ 6000 < p c + kBl tp k then _ else _) = _
            rw [if_pos hroom]
          obtain ⟨rr, L, rx, rl⟩ := id hR
          refine bp_Sto_takeIn_66 (dc := 2) s0 (c_Sto_sweep (A := kAb c0) (u := fun m => if m < c0 then u m else 0) (th := th) (z := z) (g := g) (by omega) hS rr rx.1 (by rw [h6 0 (by omega)]; exact k2) (fun m hm => ⟨hP m hm, ?_⟩) (fun m hm => ?_) (fun q' hq' => ?_) (fun q' hq' ht => ?_) (fun q' hq' ht i hi => kAb_t ((k6 q' hq' ht).2.1 i hi))) (by omega) (fun v K hv => ?_)
          · show (if m < c0 then u m else 0) < 2 ^ 31
            by_cases e : m < c0
            · rw [if_pos e, (k7 m e).1]
              have := kRf_bd k6 m
              omega
            · rw [if_neg e]
              omega
          · show decide (m < c0) = decide (0 < (if m < c0 then u m else 0))
            by_cases e : m < c0
            · rw [if_pos e]
              have := (k7 m e).2
              rw [decide_eq_true e, decide_eq_true this]
            · rw [if_neg e, decide_eq_false e]
              rfl
          · obtain ⟨y1, y2⟩ := c3 q' hq'
            have e0 : J (s + 10 + 2 * q') = I (s + 10 + 2 * q') := hF _ (by omega)
            refine ⟨by rw [e0]; exact y1, fun ht => ?_⟩
            have hne : q' ≠ q := fun r => by rw [r, hfq] at ht; cases ht
            have e1 : J (s + 10 + 2 * q' + 1) = I (s + 10 + 2 * q' + 1) := hF _ (by omega)
            obtain ⟨y3, y4, y5⟩ := y2 ht
            rw [e0, e1]
            refine ⟨y3, ?_, y5⟩
            rw [y4, kSl_pc h6 (k6 q' hq' ht).2.1]
          · obtain ⟨o1, o2, o3⟩ := k6 q' hq' ht
            refine ⟨o1, fun i hi => by have := o2 i hi; omega, ?_⟩
            rw [kSl_pc h6 o2]
            exact o3
          · obtain ⟨rfl, hKF, hKC⟩ := hv
            rw [← hQQ, hnone]
            refine bl_Sto_takeIn_70 ⟨rfl, rfl, rfl, fun a ha => ?_, kBack hK hKI hKC⟩
            rw [hKF a ha, hF a (by omega)]
      · have efv : kFv c (kFd f p c tf tp k) = nI (kFd f p c tf tp k) := if_neg hc
        rw [efv]
        refine bl_Sto_takeIn_42 (fun _ => ?_) (fun h => absurd h (nI_nm1 (by omega)))
        refine bl_Sto_takeIn_74 x0 rfl (fun _ => ?_) (fun h => absurd h (nI_nm1 (by omega)))
        refine bl_Sto_takeIn_96 (bl_Sto_takeIn_98 x1 (j2 := k) ⟨rfl, by omega, by omega⟩ ?_)
        rw [nI_1]
        refine ih (k + 1) _ c p f (kU gg k (kFd f p c tf tp k)) (by omega) ?_ (fun a ha => ?_) (StR_of hR (fun a a1 a2 => up_ne (by omega))) (fun m hm => ?_) (fun i hi => ?_)
        · rw [hstep]
          show (if kFd f p c tf tp k = c then _ else _) = _
          rw [if_neg hc]
        · rw [up_ne (by omega)]
          exact hF a ha
        · rw [up_ne (by omega)]
          exact hP m hm
        · by_cases e : i = k
          · rw [e, up_at, kU_s]
          · rw [up_i e, kU_n e]
            exact hG i (by omega)
  exact loop N 0 I c0 p0 f0 (fun _ => 0) (by omega) rfl (fun _ _ => rfl) c1 (fun m hm => by rw [if_pos hm]; exact c2 m hm) (fun i hi => absurd hi (by omega))
def sKp (ru : Nat → Nat) (tab : Nat → Int32) (len : Nat → Nat) (tb : Nat → Nat → Nat) (σ : kSt) (t : Int32) : Int32 × kSt := if kT t then sKeep σ (tb (tN t)) (kPos ru tab (tb (tN t)) (len (tN t))) (kCnt ru tab (tb (tN t)) (len (tN t))) else (-1, σ)
theorem c_Cb_keep {d : Nat} {B : kv_B} {n : Nat} {S : kv_SM} {I : kv_IM} (hd : 6 ≤ d) {o : Nat} {ru : Nat → Nat} {tab : Nat → Int32} {len : Nat → Nat} {tb : Nat → Nat → Nat} {σ : kSt} (t : Int32) (hS : CbS S o) (hA : CbA I o ru tab len tb) (hok : RuOK ru) (hC : StC I (o + 32) σ) (hK : StK σ) :
    kv_P y_Cb_keep d B [.ref o, .int t] n S I (fun v J => v = some (.int (sKp ru tab len tb σ t).1) ∧ kFr o (o + 61) I J ∧ CbA J o ru tab len tb ∧ StC J (o + 32) (sKp ru tab len tb σ t).2) := by
  obtain ⟨c, p, f, u, th, z, g⟩ := σ
  obtain ⟨s0, s1, s2, s3, s4⟩ := id hS
  refine kv_P.of (by decide +kernel) rfl (Nat.le_of_ble_eq_true rfl) ?_
  refine bp_Cb_keep_0 (dc := 0) (c_Cb_isText t) (by omega) (fun v J hv => ?_)
  obtain ⟨rfl, rfl⟩ := hv
  refine bl_Cb_keep_4 (fun h => ?_) (fun h => ?_)
  · have e : sKp ru tab len tb (c, p, f, u, th, z, g) t = (-1, (c, p, f, u, th, z, g)) := if_neg (kB_e0.mp h)
    rw [e]
    exact bl_Cb_keep_22 (bl_Cb_keep_23 ⟨rfl, rfl, rfl, fun _ _ => rfl, hA, hC⟩)
  · have ht : kT t := Classical.not_not.mp (fun q => h (kB_e0.mpr q))
    obtain ⟨hk, et⟩ := kT_of ht
    have e : sKp ru tab len tb (c, p, f, u, th, z, g) t = sKeep (c, p, f, u, th, z, g) (tb (tN t)) (kPos ru tab (tb (tN t)) (len (tN t))) (kCnt ru tab (tb (tN t)) (len (tN t))) := if_pos ht
    rw [e]
    refine bp_Cb_keep_7 (dc := 5) s0 rfl (by rw [et]; exact c_Cb_indexedRow (by omega) hS hA hok hk) (by omega) (fun v J hv => ?_)
    obtain ⟨rfl, hF, hA1, hR, L, hX, hV⟩ := hv
    have hC1 := StC_of (J := J) hC (fun a b1 b2 => hF a (by omega))
    refine bp_Cb_keep_16 (dc := 3) s4.1 (c_Sto_takeIn (by omega) s4 (s3 _ hk).2 (by omega) hC1 hK hR hX.1 rfl) (by omega) (fun v K hv => ?_)
    obtain ⟨rfl, hF2, hC2⟩ := hv
    exact bl_Cb_keep_19 (bl_Cb_keep_23 ⟨rfl, rfl, rfl, fun a ha => by rw [hF2 a (by omega), hF a (by omega)], CbA_of hA1 (fun a b1 b2 => hF2 a (by omega)), hC2⟩)
