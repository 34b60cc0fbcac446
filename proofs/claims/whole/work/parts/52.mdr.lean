def kRs (I J : kv_IM) (w t : Nat) (F : Nat → Nat) (l : Nat) : Prop := (∀ a, a ≠ w + 1 → a ≠ w + 2 → J a = I a) ∧ (∀ i, (i < 1500 * t ∨ 1500 * t + 1500 ≤ i) → J (w + 1) i = I (w + 1) i) ∧ (∀ i, i ≠ t → J (w + 2) i = I (w + 2) i) ∧ J (w + 2) t = nI l ∧ kTx J (w + 1) (1500 * t) F l
theorem c_Md_restore {d : Nat} {B : kv_B} {n : Nat} {S : kv_SM} {I : kv_IM} (hd : 2 ≤ d) {w : Nat} {ru : Nat → Nat} {tab : Nat → Int32} {len : Nat → Nat} {tb : Nat → Nat → Nat} {c : Nat} {p f u : Nat → Nat} {th : Nat → Bool} {z : Nat → Nat} {g : Nat → Nat → Nat} (q t : Int32) (hS : MdS S w) (hA' : MdA I w ru tab len tb) (hM' : StM I w (c, p, f, u, th, z, g)) (hK : StK (c, p, f, u, th, z, g)) :
    kv_P y_Md_restore d B [.ref w, .int q, .int t] n S I (MdQ I w ru tab (sRes len tb p f th z g q t)) := by
  obtain ⟨s0, s1, s2, s3, s4, s5, s6, s7, s8, s9, s10, s11, s12, s13⟩ := id hS
  obtain ⟨k1, k2, k3, k4, k5, k6, k7⟩ := id hK
  have hA := kC0_A hA'
  obtain ⟨m1, m2⟩ := StM_K hM' (kC0_K (I := I) (w := w))
  refine kv_P.of (by decide +kernel) rfl (Nat.le_of_ble_eq_true rfl) ?_
  have bad : ¬ (kSn th q ∧ kT t) → kv_V y_Md_restore d B (kv_PQ n S (MdQ I w ru tab (sRes len tb p f th z g q t))) 0 0 n S (kC0 I w) 20 [(0, .ref w), (1, .int q), (2, .int t)] [] := by
    intro hn
    have e : sRes len tb p f th z g q t = (-1, len, tb) := by
      unfold sRes
      rw [if_neg hn]
    rw [e]
    exact bl_Md_restore_20 ⟨rfl, rfl, rfl, kC0_K, hA⟩
  refine bp_Md_restore_0 (dc := 1) s0 (c_Md_isSnapshot (by omega) q hS (I := kC0 I w) (fun q hq => (m2 q hq).1)) (by omega) (fun v J hv => ?_)
  obtain ⟨rfl, rfl⟩ := hv
  refine bl_Md_restore_10 (fun h => bad (fun r => kB_e0.mp h r.1)) (fun h1 => ?_)
  have hn := Classical.not_not.mp (fun r => h1 (kB_e0.mpr r))
  refine bp_Md_restore_13 (dc := 1) (c_Md_isText (by omega) t) (by omega) (fun v J hv => ?_)
  obtain ⟨rfl, rfl⟩ := hv
  refine bl_Md_restore_17 (fun h => ?_) (fun h => bad (fun r => kB_e0.mp h r.2))
  have ht : kT t := Classical.not_not.mp (fun r => h (kB_e0.mpr r))
  obtain ⟨hk, et⟩ := kT_of ht
  obtain ⟨i1, i2, i3⟩ := tN_of hn.1.1
  have hq : tN q < 10 := by have := hn.1.2; omega
  obtain ⟨e1, e2⟩ := (m2 _ hq).2 hn.2
  obtain ⟨w1, w2, w3⟩ := k6 _ hq hn.2
  have e : sRes len tb p f th z g q t = (nI (kSl p (g (tN q)) (z (tN q))), kU len (tN t) (kSl p (g (tN q)) (z (tN q))), kU tb (tN t) (kCat f p (g (tN q)) (z (tN q)))) := by
    unfold sRes
    rw [if_pos ⟨hn, ht⟩]
  rw [e]
  clear e bad h h1 hM'
  generalize hQ0 : tN q = q0 at *
  generalize hT0 : tN t = t0 at *
  subst i1
  subst et
  clear hQ0 hT0
  generalize hI0 : kC0 I w = I0 at *
  have hK0 : MdK w I I0 := by rw [← hI0]; exact kC0_K
  refine bl_Md_restore_22 s0 rfl s2 (j4 := t0) ⟨rfl, hk, by omega⟩ ?_
  generalize hgg : g q0 = gg at *
  generalize hzz : z q0 = zz at *
  have loop : ∀ (j m : Nat) (J : kv_IM), m + j = zz → kRs I0 J w t0 (kCat f p gg m) (kSl p gg m) → kv_V y_Md_restore d B (kv_PQ n S (MdQ I w ru tab (nI (kSl p gg zz), kU len t0 (kSl p gg zz), kU tb t0 (kCat f p gg zz)))) 0 0 n S J 31 [(0, .ref w), (1, .int (nI q0)), (2, .int (nI t0)), (3, .int (nI m))] [] := by
    intro j
    induction j with
    | zero =>
      intro m J hm hJ
      obtain ⟨f1, f2, f3, f4, f5⟩ := hJ
      have hm' : m = zz := by omega
      subst hm'
      have e9 : J (w + 11) q0 = nI m := by rw [f1 _ (by omega) (by omega)]; exact e1
      refine bl_Md_restore_31 s0 rfl s11 ⟨rfl, hq, by omega⟩ (fun _ => ?_) (fun h => absurd (by rw [e9]; exact nI_le (Nat.le_refl _) (by omega)) h)
      refine bl_Md_restore_124 s0 rfl s2 ⟨rfl, hk, by omega⟩ ⟨rfl, rfl, by rw [f4], MdK_tr hK0 ⟨fun a ha => f1 a (by omega) (by omega), by rw [f1 w (by omega) (by omega)], by rw [f1 w (by omega) (by omega)]⟩, ?_⟩
      exact MdA_upd hA hk (fun i b1 b2 => by rw [f1 w (by omega) (by omega)]) f2 f3 (f1 _ (by omega) (by omega)) ⟨w3, f4, f5⟩
    | succ j ih =>
      intro m J hm hJ
      have e9 : J (w + 11) q0 = nI zz := by rw [hJ.1 _ (by omega) (by omega)]; exact e1
      have e10 : J (w + 12) (1500 * q0 + m) = nI (gg m) := by rw [hJ.1 _ (by omega) (by omega)]; exact e2 m (by omega)
      have hgm := w2 m (by omega)
      have n1 := k3 (gg m) hgm
      have n2 := kMon k3 (i := gg m + 1) (k := c) (by omega) (Nat.le_refl _)
      have hs := kSl_s (p := p) (g := gg) (m := m)
      have hle := kSl_le (p := p) (g := gg) (m := m + 1) (m' := zz) (by omega)
      have ebl : kBl p (gg m) = p (gg m + 1) - p (gg m) := rfl
      refine bl_Md_restore_31 s0 rfl s11 ⟨rfl, hq, by omega⟩ (fun h => absurd h (by rw [e9]; exact nI_ge (by omega) (by omega))) (fun _ => ?_)
      refine bl_Md_restore_41 s0 rfl s12 (j4 := 1500 * q0 + m) ⟨?_, by omega, by omega⟩ ?_
      · show nI 1500 * nI q0 + nI m = _
        rw [pk_mul, nI_add]
      rw [e10]
      have inner : ∀ (j' i : Nat) (J : kv_IM), i + j' = kBl p (gg m) → kRs I0 J w t0 (kCat f p gg (m + 1)) (kSl p gg m + i) → kv_V y_Md_restore d B (kv_PQ n S (MdQ I w ru tab (nI (kSl p gg zz), kU len t0 (kSl p gg zz), kU tb t0 (kCat f p gg zz)))) 0 0 n S J 58 [(0, .ref w), (1, .int (nI q0)), (2, .int (nI t0)), (3, .int (nI m)), (4, .int (nI (gg m))), (5, .int (nI i))] [] := by
        intro j'
        induction j' with
        | zero =>
          intro i J hi hJ
          have e8 : J (w + 8) (gg m) = nI (kBl p (gg m)) := by rw [hJ.1 _ (by omega) (by omega)]; exact (m1.2.2.2 _ hgm).2.1
          refine bl_Md_restore_58 s0 rfl s8 ⟨rfl, by omega, by omega⟩ (fun _ => ?_) (fun h => absurd (by rw [e8]; exact nI_le (by omega) (by omega)) h)
          refine bl_Md_restore_118 ?_
          rw [nI_1]
          refine ih (m + 1) J (by omega) ?_
          rw [hs, ← show i = kBl p (gg m) by omega]
          exact hJ
        | succ j' ih' =>
          intro i J hi hJ
          obtain ⟨f1, f2, f3, f4, f5⟩ := hJ
          have e8 : J (w + 8) (gg m) = nI (kBl p (gg m)) := by rw [f1 _ (by omega) (by omega)]; exact (m1.2.2.2 _ hgm).2.1
          have e7 : J (w + 7) (gg m) = nI (p (gg m)) := by rw [f1 _ (by omega) (by omega)]; exact (m1.2.2.2 _ hgm).1
          have e6 := m1.2.2.1 (p (gg m) + i) (by omega)
          rw [Nat.zero_add] at e6
          refine bl_Md_restore_58 s0 rfl s8 ⟨rfl, by omega, by omega⟩ (fun h => absurd h (by rw [e8]; exact nI_ge (by omega) (by omega))) (fun _ => ?_)
          refine bl_Md_restore_70 s0 rfl rfl s2 (j5 := t0) ⟨rfl, hk, by omega⟩ rfl rfl s7 (j9 := gg m) ⟨rfl, by omega, by omega⟩ s6 (j11 := p (gg m) + i) ⟨by rw [e7, nI_add], by omega, by omega⟩ s1 (j13 := 1500 * t0 + (kSl p gg m + i)) ⟨?_, by omega, by omega⟩ ?_
          · rw [f4]
            show nI 1500 * nI t0 + _ = _
            rw [pk_mul, nI_add]
          have x6 : J (w + 6) (p (gg m) + i) = nI (f (p (gg m) + i)) := by rw [f1 _ (by omega) (by omega)]; exact e6.1
          rw [x6, nI_1]
          generalize hJ1 : kv_up J (w + 1) (1500 * t0 + (kSl p gg m + i)) (nI (f (p (gg m) + i))) = J1
          have y2 : J1 (w + 2) = J (w + 2) := by
            rw [← hJ1]
            funext z
            unfold kv_up
            rw [if_neg (by omega)]
          have ya : ∀ a, a ≠ w + 1 → J1 a = J a := by
            intro a ha
            rw [← hJ1]
            funext z
            unfold kv_up
            rw [if_neg ha]
          rw [y2, f4, nI_1]
          refine ih' (i + 1) _ (by omega) ⟨fun a b1 b2 => ?_, fun i' hi' => ?_, fun i' hi' => ?_, ?_, fun i' hi' => ?_⟩
          · funext z
            unfold kv_up
            rw [if_neg b2, ya a b1, f1 a b1 b2]
          · rw [show kv_up J1 (w + 2) t0 (nI (kSl p gg m + i + 1)) (w + 1) i' = J1 (w + 1) i' by unfold kv_up; rw [if_neg (by omega)], ← hJ1]
            unfold kv_up
            rw [if_pos rfl, if_neg (by omega)]
            exact f2 i' hi'
          · unfold kv_up
            rw [if_pos rfl, if_neg hi', y2]
            exact f3 i' hi'
          · unfold kv_up
            rw [if_pos rfl, if_pos rfl]
            rfl
          · rw [show kv_up J1 (w + 2) t0 (nI (kSl p gg m + i + 1)) (w + 1) (1500 * t0 + i') = J1 (w + 1) (1500 * t0 + i') by unfold kv_up; rw [if_neg (by omega)], ← hJ1]
            unfold kv_up
            rw [if_pos rfl]
            by_cases hh : i' = kSl p gg m + i
            · subst hh
              rw [if_pos rfl]
              have ec : kCat f p gg (m + 1) (kSl p gg m + i) = f (p (gg m) + i) := by
                show (if kSl p gg m + i < kSl p gg m then kCat f p gg m (kSl p gg m + i) else f (p (gg m) + (kSl p gg m + i - kSl p gg m))) = _
                rw [if_neg (by omega)]
                congr 2
                omega
              rw [ec]
              exact ⟨rfl, e6.2⟩
            · rw [if_neg (by omega)]
              exact f5 i' (by omega)
      refine inner _ 0 J (Nat.zero_add _) ?_
      obtain ⟨f1, f2, f3, f4, f5⟩ := hJ
      refine ⟨f1, f2, f3, f4, fun i' hi' => ?_⟩
      have ec : kCat f p gg (m + 1) i' = kCat f p gg m i' := if_pos (by omega)
      rw [ec]
      exact f5 i' (by omega)
  refine loop zz 0 _ (by omega) ⟨fun a b1 b2 => ?_, fun i hi => ?_, fun i hi => ?_, ?_, fun i hi => absurd hi (Nat.not_lt_zero _)⟩
  · funext i
    unfold kv_up
    rw [if_neg b2]
  · unfold kv_up
    rw [if_neg (by omega)]
  · unfold kv_up
    rw [if_pos rfl, if_neg hi]
  · unfold kv_up
    rw [if_pos rfl, if_pos rfl]
    rfl
theorem z_key (x : Int32) : Int64.toInt32 (x.toInt64 &&& 4294967295 &&& 255) = nI (kKN x) := by
  rw [← kKN_and]
  apply Int32.toBitVec_inj.mp
  have h1 : ∀ i : Nat, i < 32 → (4294967295 : Int64).toBitVec.getLsbD i = true := by decide +kernel
  have h2 : ∀ i : Nat, i < 32 → (255 : Int64).toBitVec.getLsbD i = (255 : Int32).toBitVec.getLsbD i := by decide +kernel
  apply BitVec.eq_of_getLsbD_eq
  intro i hi
  simp only [Int64.toBitVec_toInt32, Int64.toBitVec_and, Int32.toBitVec_and, Int32.toBitVec_toInt64, BitVec.getLsbD_setWidth, BitVec.getLsbD_and, BitVec.getLsbD_signExtend, h1 i hi, h2 i hi, hi, decide_true, Bool.true_and, Bool.and_true, if_true, show i < 64 by omega]
theorem c_Md_keyOf {d : Nat} {B : kv_B} {n : Nat} {S : kv_SM} {I : kv_IM} (hd : 1 ≤ d) {w c k : Nat} {p f u : Nat → Nat} (hS : MdS S w) (hB : StB I w c p f u) (hc : c ≤ 300) (h6 : p c ≤ 6000) (hinc : ∀ k, k < c → p k < p (k + 1)) (hk : k < c) :
    kv_P y_Md_keyOf d B [.ref w, .int (nI k)] n S I (kQl ((kFnv f (p k) (p (k + 1) - p k)).toInt64 &&& 4294967295 &&& 255) I) := by
  obtain ⟨s0, s1, s2, s3, s4, s5, s6, s7, s8, s9, s10, s11, s12, s13⟩ := id hS
  obtain ⟨b1, b2, b3, b4⟩ := id hB
  obtain ⟨q1, q2, q3⟩ := b4 k hk
  have n1 := hinc k hk
  have n2 := kMon hinc (i := k + 1) (k := c) (by omega) (Nat.le_refl _)
  have ebl : kBl p k = p (k + 1) - p k := rfl
  refine kv_P.of (by decide +kernel) rfl (Nat.le_of_ble_eq_true rfl) ?_
  refine bp_Md_keyOf_0 (dc := 0) s0 rfl rfl s7 ⟨rfl, by omega, by omega⟩ rfl s8 (j8 := k) ⟨rfl, by omega, by omega⟩ (by
    rw [q1, q2, nI_add, ← Nat.zero_add (p k), Nat.add_assoc, show p k + kBl p k = p (k + 1) by omega]
    exact c_Md_digestOf (f := f) (lo := p k) (hi := p (k + 1)) 0 s6 (by omega) b3 (by omega) (by omega) (by omega)) (by omega) (fun v J hv => ?_)
  obtain ⟨rfl, rfl⟩ := hv
  rw [if_pos rfl]
  exact bl_Md_keyOf_27 ⟨rfl, rfl, rfl, rfl⟩
theorem c_Md_keysTold {d : Nat} {B : kv_B} {n : Nat} {S : kv_SM} {I : kv_IM} (hd : 2 ≤ d) {w c : Nat} {p f u : Nat → Nat} (b : Int32) (hS : MdS S w) (hB : StB I w c p f u) (hc : c ≤ 300) (h6 : p c ≤ 6000) (hinc : ∀ k, k < c → p k < p (k + 1)) :
    kv_P y_Md_keysTold d B [.ref w, .int b] n S I (fun v J => v = some (.int (if b = 0 then nI (kMx (kKey f p) c) else nI (kPr (kKey f p) c))) ∧ ∀ a, a ≠ w + 13 → J a = I a) := by
  obtain ⟨s0, s1, s2, s3, s4, s5, s6, s7, s8, s9, s10, s11, s12, s13⟩ := id hS
  refine kv_P.of (by decide +kernel) rfl (Nat.le_of_ble_eq_true rfl) ?_
  refine bl_Md_keysTold_0 ?_
  generalize hQ : (kv_PQ n S (fun v J => v = some (.int (if b = 0 then nI (kMx (kKey f p) c) else nI (kPr (kKey f p) c))) ∧ ∀ a, a ≠ w + 13 → J a = I a)) = QQ
  have loop2 : ∀ (j i v : Nat) (J : kv_IM), i + j = c → (∀ a, a ≠ w + 13 → J a = I a) → (∀ k, k < 256 → J (w + 13) k = nI (kCt (kKey f p) i k)) → kv_V y_Md_keysTold d B QQ 0 0 n S J 29 [(0, .ref w), (1, .int b), (2, .int (nI (kPr (kKey f p) i))), (3, .int (nI (kMx (kKey f p) i))), (4, .int (nI i))] [] := by
    intro j
    induction j with
    | zero =>
      intro i v J hi hF hk
      have hi' : i = c := by omega
      subst hi'
      have e : J w 16 = nI i := by rw [hF w (by omega)]; exact hB.2.1
      refine bl_Md_keysTold_29 s0 (fun _ => ?_) (fun h => absurd (by rw [e]; exact nI_le (Nat.le_refl _) (by omega)) h)
      rw [← hQ]
      refine bl_Md_keysTold_97 (fun h => ?_) (fun h => ?_)
      · exact bl_Md_keysTold_105 (bl_Md_keysTold_106 ⟨rfl, rfl, by rw [if_pos h], hF⟩)
      · exact bl_Md_keysTold_101 (bl_Md_keysTold_106 ⟨rfl, rfl, by rw [if_neg h], hF⟩)
    | succ j ih =>
      intro i v J hi hF hk
      have e : J w 16 = nI c := by rw [hF w (by omega)]; exact hB.2.1
      have hBJ : StB J w c p f u := StB_of hB (by rw [hF w (by omega)]) (by rw [hF w (by omega)]) (fun a h1 h2 => hF a (by omega))
      have hkl : kKey f p i < 256 := kKey_lt i
      have hb1 := kCt_bd (g := kKey f p) (m := i) (k := kKey f p i)
      have hmx : kMx (kKey f p) i ≤ 300 := by
        rcases (kMx_sp (key := kKey f p) kKey_lt i).2 with h | ⟨k, h1, h2⟩
        · omega
        · have := kCt_bd (g := kKey f p) (m := i) (k := k)
          omega
      refine bl_Md_keysTold_29 s0 (fun h => absurd h (by rw [e]; exact nI_ge (by omega) (by omega))) (fun _ => ?_)
      refine bp_Md_keysTold_38 (dc := 1) s0 (c_Md_keyOf (by omega) hS hBJ hc h6 hinc (by omega)) (by omega) (fun v J' hv => ?_)
      obtain ⟨rfl, rfl⟩ := hv
      have ez := z_key (kFnv f (p i) (p (i + 1) - p i))
      have ek : J (w + 13) (kKey f p i) = nI (kCt (kKey f p) i (kKey f p i)) := hk _ hkl
      have es : kCt (kKey f p) (i + 1) (kKey f p i) = kCt (kKey f p) i (kKey f p i) + 1 := by rw [kCt_s, if_pos rfl]
      have ev : kv_up J (w + 13) (kKey f p i) (J (w + 13) (kKey f p i) + 1) (w + 13) (kKey f p i) = nI (kCt (kKey f p) (i + 1) (kKey f p i)) := by
        unfold kv_up
        rw [if_pos rfl, if_pos rfl, ek, nI_1, es]
      have hF1 : ∀ a, a ≠ w + 13 → kv_up J (w + 13) (kKey f p i) (J (w + 13) (kKey f p i) + 1) a = I a := by
        intro a ha
        rw [← hF a ha]
        funext z
        unfold kv_up
        rw [if_neg ha]
      have hk1 : ∀ k, k < 256 → kv_up J (w + 13) (kKey f p i) (J (w + 13) (kKey f p i) + 1) (w + 13) k = nI (kCt (kKey f p) (i + 1) k) := by
        intro k hk2
        by_cases hh : k = kKey f p i
        · rw [hh]; exact ev
        · unfold kv_up
          rw [if_pos rfl, if_neg hh, hk k hk2, kCt_s, if_neg (fun q => hh q.symm)]
          rfl
      have hI := ih (i + 1) 0 _ (by omega) hF1 hk1
      refine bl_Md_keysTold_44 s0 rfl s13 (j4 := kKey f p i) ⟨ez, hkl, by omega⟩ (fun h => ?_) (fun h => ?_)
      · rw [ev, nI_leI (by omega) (by omega)] at h
        refine bl_Md_keysTold_89 (bl_Md_keysTold_90 ?_)
        rw [ek, nI_add, nI_1, nI_1]
        rw [kMx, if_neg (by omega), ek, nI_1] at hI
        exact hI
      · rw [ev, nI_leI (by omega) (by omega)] at h
        refine bl_Md_keysTold_79 s0 rfl s13 (j4 := kKey f p i) ⟨ez, hkl, by omega⟩ (bl_Md_keysTold_90 ?_)
        rw [ev, ek, nI_add, nI_1, nI_1]
        rw [kMx, if_pos (by omega), ek, nI_1] at hI
        exact hI
  have loop1 : ∀ (j i : Nat) (J : kv_IM), i + j = 256 → (∀ a, a ≠ w + 13 → J a = I a) → (∀ k, k < i → J (w + 13) k = 0) → kv_V y_Md_keysTold d B QQ 0 0 n S J 2 [(0, .ref w), (1, .int b), (2, .int (nI i))] [] := by
    intro j
    induction j with
    | zero =>
      intro i J hi hF hk
      refine bl_Md_keysTold_2 (fun _ => ?_) (fun h => absurd (nI_le (a := 256) (by omega) (by omega)) h)
      refine bl_Md_keysTold_22 ?_
      exact loop2 c 0 0 J (by omega) hF (fun k hk2 => by rw [hk k (by omega)]; rfl)
    | succ j ih =>
      intro i J hi hF hk
      refine bl_Md_keysTold_2 (fun h => absurd h (nI_ge (b := 256) (by omega) (by omega))) (fun _ => ?_)
      refine bl_Md_keysTold_9 s0 rfl s13 ⟨rfl, by omega, by omega⟩ ?_
      rw [nI_1]
      refine ih (i + 1) _ (by omega) (fun a ha => ?_) (fun k hk2 => ?_)
      · rw [← hF a ha]
        funext z
        unfold kv_up
        rw [if_neg ha]
      · unfold kv_up
        rw [if_pos rfl]
        by_cases hh : k = i
        · rw [if_pos hh]
        · rw [if_neg hh]
          exact hk k (by omega)
  exact loop1 256 0 I (by omega) (fun _ _ => rfl) (fun k hk => absurd hk (by omega))
theorem c_Md_kept {d : Nat} {B : kv_B} {n : Nat} {S : kv_SM} {I : kv_IM} (hd : 3 ≤ d) {w : Nat} {ru : Nat → Nat} {tab : Nat → Int32} {len : Nat → Nat} {tb : Nat → Nat → Nat} {c : Nat} {p f u : Nat → Nat} {th : Nat → Bool} {z : Nat → Nat} {g : Nat → Nat → Nat} (x : Int32) (hS : MdS S w) (hA' : MdA I w ru tab len tb) (hM' : StM I w (c, p, f, u, th, z, g)) (hK : StK (c, p, f, u, th, z, g)) :
    kv_P y_Md_kept d B [.ref w, .int x] n S I (fun v J => v = some (.int (sKept c p f u th x)) ∧ kFr w (w + 13) I J ∧ MdA J w ru tab len tb ∧ StM J w (c, p, f, u, th, z, g)) := by
  obtain ⟨s0, s1, s2, s3, s4, s5, s6, s7, s8, s9, s10, s11, s12, s13⟩ := id hS
  obtain ⟨k1, k2, k3, k4, k5, k6, k7⟩ := id hK
  have hA := kC0_A hA'
  have hM := StM_K hM' (kC0_K (I := I) (w := w))
  obtain ⟨m1, m2⟩ := id hM
  have hF0 : kFr w (w + 13) I (kC0 I w) := fun a ha => kC0_ne (by omega)
  refine kv_P.of (by decide +kernel) rfl (Nat.le_of_ble_eq_true rfl) ?_
  refine bl_Md_kept_0 s0 (fun h => ?_) (fun h => ?_) (fun h => ?_) (fun h => ?_) (fun h => ?_) (fun h => ?_) (fun h => ?_)
  · subst h
    refine bl_Md_kept_48 ?_
    have loop : ∀ (j k : Nat), k + j = 10 → kv_V y_Md_kept d B (kv_PQ n S (fun v J => v = some (.int (sKept c p f u th (nI 0))) ∧ kFr w (w + 13) I J ∧ MdA J w ru tab len tb ∧ StM J w (c, p, f, u, th, z, g))) 0 0 n S (kC0 I w) 50 [(0, .ref w), (1, .int (nI 0)), (2, .int (nI (kSm (fun q => if th q = true then 1 else 0) k))), (3, .int (nI k))] [] := by
      intro j
      induction j with
      | zero =>
        intro k hk
        refine bl_Md_kept_50 (fun _ => ?_) (fun q => absurd (nI_le (a := 10) (by omega) (by omega)) q)
        refine bl_Md_kept_79 ⟨rfl, rfl, ?_, hF0, hA, hM⟩
        rw [sKept_0, show k = 10 by omega]
      | succ j ih =>
        intro k hk
        have hI := ih (k + 1) (by omega)
        have hq : k < 10 := by omega
        refine bl_Md_kept_50 (fun q => absurd q (nI_ge (b := 10) (by omega) (by omega))) (fun _ => ?_)
        refine bl_Md_kept_56 s0 rfl s10 ⟨rfl, hq, by omega⟩ (fun h => ?_) (fun h => ?_)
        · rw [show kC0 I w (w + 10) k = kBo (th k) from (m2 k hq).1] at h
          have e := kBo_e0.mp h
          refine bl_Md_kept_70 (bl_Md_kept_71 ?_)
          have e1 : kSm (fun q => if th q = true then 1 else 0) (k + 1) = kSm (fun q => if th q = true then 1 else 0) k := by
            rw [kSm, e]
            rfl
          rw [e1] at hI
          rw [show nI (kSm (fun q => if th q = true then 1 else 0) k) + 0 = nI (kSm (fun q => if th q = true then 1 else 0) k) from nI_add _ 0, nI_1]
          exact hI
        · rw [show kC0 I w (w + 10) k = kBo (th k) from (m2 k hq).1] at h
          have e : th k = true := by
            cases e : th k
            · exact absurd (kBo_e0.mpr e) h
            · rfl
          refine bl_Md_kept_66 (bl_Md_kept_71 ?_)
          have e1 : kSm (fun q => if th q = true then 1 else 0) (k + 1) = kSm (fun q => if th q = true then 1 else 0) k + 1 := by
            rw [kSm, e]
            rfl
          rw [e1] at hI
          rw [nI_1, nI_1]
          exact hI
    exact loop 10 0 (by omega)
  · subst h
    refine bl_Md_kept_81 s0 ⟨rfl, rfl, ?_, hF0, hA, hM⟩
    rw [sKept_1]
    exact congrArg (fun x => some (Value.int x)) m1.2.1
  · subst h
    refine bl_Md_kept_86 s0 ⟨rfl, rfl, ?_, hF0, hA, hM⟩
    rw [sKept_2]
    exact congrArg (fun x => some (Value.int x)) m1.1
  · subst h
    refine bl_Md_kept_91 ?_
    have e16 : kC0 I w w 16 = nI c := m1.2.1
    have loop : ∀ (j k : Nat), k + j = c → kv_V y_Md_kept d B (kv_PQ n S (fun v J => v = some (.int (sKept c p f u th (nI 3))) ∧ kFr w (w + 13) I J ∧ MdA J w ru tab len tb ∧ StM J w (c, p, f, u, th, z, g))) 0 0 n S (kC0 I w) 93 [(0, .ref w), (1, .int (nI 3)), (2, .int (nI (kSm u k))), (3, .int (nI k))] [] := by
      intro j
      induction j with
      | zero =>
        intro k hk
        refine bl_Md_kept_93 s0 (fun _ => ?_) (fun q => absurd (by rw [e16]; exact nI_le (by omega) (by omega)) q)
        refine bl_Md_kept_116 ⟨rfl, rfl, ?_, hF0, hA, hM⟩
        rw [sKept_3, show k = c by omega]
      | succ j ih =>
        intro k hk
        refine bl_Md_kept_93 s0 (fun q => absurd q (by rw [e16]; exact nI_ge (by omega) (by omega))) (fun _ => ?_)
        refine bl_Md_kept_101 s0 rfl s9 ⟨rfl, by omega, by omega⟩ ?_
        rw [(m1.2.2.2 k (by omega)).2.2, nI_add, nI_1]
        exact ih (k + 1) (by omega)
    exact loop c 0 (by omega)
  · subst h
    refine bp_Md_kept_118 (dc := 2) s0 (c_Md_keysTold (by omega) 1 hS m1 k1 k4 k3) (by omega) (fun v J hv => ?_)
    obtain ⟨rfl, hF⟩ := hv
    refine bl_Md_kept_123 ⟨rfl, rfl, ?_, fun a ha => ?_, MdA_of hA (fun i _ _ => by rw [hF w (by omega)]; rfl) (fun a h1 h2 => hF a (by omega)), StM_of hM (by rw [hF w (by omega)]; rfl) (by rw [hF w (by omega)]; rfl) (fun a h1 h2 => hF a (by omega))⟩
    · rw [sKept_4, if_neg (by decide)]
    · rw [hF a (by omega)]; exact hF0 a ha
  · subst h
    refine bp_Md_kept_124 (dc := 2) s0 (c_Md_keysTold (by omega) 0 hS m1 k1 k4 k3) (by omega) (fun v J hv => ?_)
    obtain ⟨rfl, hF⟩ := hv
    refine bl_Md_kept_129 ⟨rfl, rfl, ?_, fun a ha => ?_, MdA_of hA (fun i _ _ => by rw [hF w (by omega)]; rfl) (fun a h1 h2 => hF a (by omega)), StM_of hM (by rw [hF w (by omega)]; rfl) (by rw [hF w (by omega)]; rfl) (fun a h1 h2 => hF a (by omega))⟩
    · rw [sKept_5, if_pos rfl]
    · rw [hF a (by omega)]; exact hF0 a ha
  · exact bl_Md_kept_130 ⟨rfl, rfl, by rw [sKept_d h], hF0, hA, hM⟩
