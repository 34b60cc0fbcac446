theorem bl_Law_law_0 {d : Nat} {B : kv_B} {Q : kv_Q} {kc ks n : Nat} {S : kv_SM} {I : kv_IM} {dc kcc ksc : Nat} {Qy : kv_Q} (hk1 : 1 ≤ kc) (hs1 : 3 ≤ ks) (hM : kv_T y_Cb_init dc kcc ksc B [.ref (B.1 + n)] (n + 1) (kv_su S (B.1 + n) (kO 5 (fun _ => none))) (kv_iu I (B.1 + n) (fun _ => 0)) Qy) (hdp : dc + 1 ≤ d) (hkk : kcc ≤ kc - 1) (hkl : ksc ≤ ks - 3) (K : ∀ v n' S' I', Qy v n' S' I' → kv_V y_Law_law d B Q (kc - 1 - kcc) (ks - 3 - ksc) n' S' I' 7 [(0, .ref B.2.1)] (v.toList ++ [.ref (B.1 + n)])) : kv_V y_Law_law d B Q kc ks n S I 0 [(0, .ref B.2.1)] [] := by
  refine kv_new nw_Law_7 dd_Law_law_0 hk1 hs1 ?_
  refine kv_dup dd_Law_law_3 rfl ?_
  exact kv_callI [] [.ref (B.1 + n)] ls_Law_9 hM dd_Law_law_4 rfl hdp (Nat.le_of_ble_eq_true rfl) hkk hkl (fun v n' S' I' hv => kv_loc [0] rfl (K v n' S' I' hv))
theorem bl_Law_law_7 {d : Nat} {B : kv_B} {Q : kv_Q} {kc ks n : Nat} {S : kv_SM} {I : kv_IM} {t0 : Nat} {dc kcc ksc : Nat} {Qy : kv_Q} (hk1 : 1 ≤ kc) (hs1 : 24 ≤ ks) (hM : kv_T y_Md_init dc kcc ksc B [.ref (B.1 + n)] (n + 1) (kv_su S (B.1 + n) (kO 6 (fun _ => none))) (kv_iu I (B.1 + n) (fun _ => 0)) Qy) (hdp : dc + 1 ≤ d) (hkk : kcc ≤ kc - 1) (hkl : ksc ≤ ks - 24) (K : ∀ v n' S' I', Qy v n' S' I' → kv_V y_Law_law d B Q (kc - 1 - kcc) (ks - 24 - ksc) n' S' I' 15 [(0, .ref B.2.1), (1, .ref t0)] (v.toList ++ [.ref (B.1 + n)])) : kv_V y_Law_law d B Q kc ks n S I 7 [(0, .ref B.2.1)] [.ref t0] := by
  refine kv_astore_n (L' := [(1, .ref t0), (0, .ref B.2.1)]) dd_Law_law_7 (by decide) rfl ?_
  refine kv_new nw_Law_10 dd_Law_law_8 hk1 hs1 ?_
  refine kv_dup dd_Law_law_11 rfl ?_
  exact kv_callI [] [.ref (B.1 + n)] ls_Law_12 hM dd_Law_law_12 rfl hdp (Nat.le_of_ble_eq_true rfl) hkk hkl (fun v n' S' I' hv => kv_loc [1, 0] rfl (K v n' S' I' hv))
theorem bl_Law_law_15 {d : Nat} {B : kv_B} {Q : kv_Q} {kc ks n : Nat} {S : kv_SM} {I : kv_IM} {a1 : Nat} {t0 : Nat} (K : kv_V y_Law_law d B Q kc ks n S I 18 [(0, .ref B.2.1), (1, .ref a1), (2, .ref t0), (3, .int 0)] []) : kv_V y_Law_law d B Q kc ks n S I 15 [(0, .ref B.2.1), (1, .ref a1)] [.ref t0] := by
  refine kv_astore_n (L' := [(2, .ref t0), (0, .ref B.2.1), (1, .ref a1)]) dd_Law_law_15 (by decide) rfl ?_
  refine kv_iconst (v := 0) dd_Law_law_16 (by decide) ?_
  refine kv_istore_n (L' := [(3, .int 0), (2, .ref t0), (0, .ref B.2.1), (1, .ref a1)]) dd_Law_law_17 (by decide) rfl ?_
  exact kv_loc [2, 3, 1, 0] rfl K
theorem bl_Law_law_18 {d : Nat} {B : kv_B} {Q : kv_Q} {kc ks n : Nat} {S : kv_SM} {I : kv_IM} {a1 : Nat} {a2 : Nat} {v3 : Int32} (Kt : ((nI B.2.2.1) - 7) < v3 → kv_V y_Law_law d B Q kc ks n S I 848 [(0, .ref B.2.1), (1, .ref a1), (2, .ref a2), (3, .int v3)] []) (Kf : ¬ ((nI B.2.2.1) - 7) < v3 → kv_V y_Law_law d B Q kc ks n S I 27 [(0, .ref B.2.1), (1, .ref a1), (2, .ref a2), (3, .int v3)] []) : kv_V y_Law_law d B Q kc ks n S I 18 [(0, .ref B.2.1), (1, .ref a1), (2, .ref a2), (3, .int v3)] [] := by
  refine kv_iload_n dd_Law_law_18 rfl ?_
  refine kv_aload_n dd_Law_law_19 rfl ?_
  refine kv_slen dd_Law_law_20 ?_
  refine kv_bipush (v := 7) dd_Law_law_21 (by decide) ?_
  refine kv_isub dd_Law_law_23 ?_
  exact kv_icmp_gt 848 dd_Law_law_24 (by decide) (fun h => kv_loc [0, 1, 2, 3] rfl (Kt h)) (fun h => kv_loc [0, 1, 2, 3] rfl (Kf h))
theorem bl_Law_law_27 {d : Nat} {B : kv_B} {Q : kv_Q} {kc ks n : Nat} {S : kv_SM} {I : kv_IM} {a1 : Nat} {a2 : Nat} {v3 : Int32} {j1 : Nat} (hi1 : v3 = nI j1 ∧ j1 < B.2.2.1 ∧ B.2.2.1 < 2 ^ 31) (K0 : (B.2.2.2 j1) &&& 31 = nI 0 → kv_V y_Law_law d B Q kc ks n S I 128 [(0, .ref B.2.1), (1, .ref a1), (2, .ref a2), (3, .int v3)] []) (K1 : (B.2.2.2 j1) &&& 31 = nI 1 → kv_V y_Law_law d B Q kc ks n S I 151 [(0, .ref B.2.1), (1, .ref a1), (2, .ref a2), (3, .int v3)] []) (K2 : (B.2.2.2 j1) &&& 31 = nI 2 → kv_V y_Law_law d B Q kc ks n S I 226 [(0, .ref B.2.1), (1, .ref a1), (2, .ref a2), (3, .int v3)] []) (K3 : (B.2.2.2 j1) &&& 31 = nI 3 → kv_V y_Law_law d B Q kc ks n S I 259 [(0, .ref B.2.1), (1, .ref a1), (2, .ref a2), (3, .int v3)] []) (K4 : (B.2.2.2 j1) &&& 31 = nI 4 → kv_V y_Law_law d B Q kc ks n S I 312 [(0, .ref B.2.1), (1, .ref a1), (2, .ref a2), (3, .int v3)] []) (K5 : (B.2.2.2 j1) &&& 31 = nI 5 → kv_V y_Law_law d B Q kc ks n S I 355 [(0, .ref B.2.1), (1, .ref a1), (2, .ref a2), (3, .int v3)] []) (K6 : (B.2.2.2 j1) &&& 31 = nI 6 → kv_V y_Law_law d B Q kc ks n S I 398 [(0, .ref B.2.1), (1, .ref a1), (2, .ref a2), (3, .int v3)] []) (K7 : (B.2.2.2 j1) &&& 31 = nI 7 → kv_V y_Law_law d B Q kc ks n S I 431 [(0, .ref B.2.1), (1, .ref a1), (2, .ref a2), (3, .int v3)] []) (K8 : (B.2.2.2 j1) &&& 31 = nI 8 → kv_V y_Law_law d B Q kc ks n S I 454 [(0, .ref B.2.1), (1, .ref a1), (2, .ref a2), (3, .int v3)] []) (K9 : (B.2.2.2 j1) &&& 31 = nI 9 → kv_V y_Law_law d B Q kc ks n S I 487 [(0, .ref B.2.1), (1, .ref a1), (2, .ref a2), (3, .int v3)] []) (K10 : (B.2.2.2 j1) &&& 31 = nI 10 → kv_V y_Law_law d B Q kc ks n S I 510 [(0, .ref B.2.1), (1, .ref a1), (2, .ref a2), (3, .int v3)] []) (K11 : (B.2.2.2 j1) &&& 31 = nI 11 → kv_V y_Law_law d B Q kc ks n S I 553 [(0, .ref B.2.1), (1, .ref a1), (2, .ref a2), (3, .int v3)] []) (K12 : (B.2.2.2 j1) &&& 31 = nI 12 → kv_V y_Law_law d B Q kc ks n S I 597 [(0, .ref B.2.1), (1, .ref a1), (2, .ref a2), (3, .int v3)] []) (K13 : (B.2.2.2 j1) &&& 31 = nI 13 → kv_V y_Law_law d B Q kc ks n S I 631 [(0, .ref B.2.1), (1, .ref a1), (2, .ref a2), (3, .int v3)] []) (K14 : (B.2.2.2 j1) &&& 31 = nI 14 → kv_V y_Law_law d B Q kc ks n S I 674 [(0, .ref B.2.1), (1, .ref a1), (2, .ref a2), (3, .int v3)] []) (K15 : (B.2.2.2 j1) &&& 31 = nI 15 → kv_V y_Law_law d B Q kc ks n S I 697 [(0, .ref B.2.1), (1, .ref a1), (2, .ref a2), (3, .int v3)] []) (K16 : (B.2.2.2 j1) &&& 31 = nI 16 → kv_V y_Law_law d B Q kc ks n S I 720 [(0, .ref B.2.1), (1, .ref a1), (2, .ref a2), (3, .int v3)] []) (K17 : (B.2.2.2 j1) &&& 31 = nI 17 → kv_V y_Law_law d B Q kc ks n S I 753 [(0, .ref B.2.1), (1, .ref a1), (2, .ref a2), (3, .int v3)] []) (K18 : (B.2.2.2 j1) &&& 31 = nI 18 → kv_V y_Law_law d B Q kc ks n S I 786 [(0, .ref B.2.1), (1, .ref a1), (2, .ref a2), (3, .int v3)] []) (K19 : (B.2.2.2 j1) &&& 31 = nI 19 → kv_V y_Law_law d B Q kc ks n S I 819 [(0, .ref B.2.1), (1, .ref a1), (2, .ref a2), (3, .int v3)] []) (Kd : (∀ k : Nat, k < 20 → ¬ (B.2.2.2 j1) &&& 31 = nI k) → kv_V y_Law_law d B Q kc ks n S I 842 [(0, .ref B.2.1), (1, .ref a1), (2, .ref a2), (3, .int v3)] []) : kv_V y_Law_law d B Q kc ks n S I 27 [(0, .ref B.2.1), (1, .ref a1), (2, .ref a2), (3, .int v3)] [] := by
  refine kv_aload_n dd_Law_law_27 rfl ?_
  refine kv_iload_n dd_Law_law_28 rfl ?_
  refine kv_sld j1 dd_Law_law_29 hi1.1 hi1.2.1 hi1.2.2 ?_
  refine kv_bipush (v := 31) dd_Law_law_30 (by decide) ?_
  refine kv_iand dd_Law_law_32 ?_
  refine kv_table 20 842 dd_Law_law_33 rfl (by decide) (fun k hk hx => ?_) (by decide) (fun h => kv_loc [0, 1, 2, 3] rfl (Kd h))
  match k, hk with
  | 0, _ => exact ⟨_, 128, rfl, by decide, kv_loc [0, 1, 2, 3] rfl (K0 hx)⟩
  | 1, _ => exact ⟨_, 151, rfl, by decide, kv_loc [0, 1, 2, 3] rfl (K1 hx)⟩
  | 2, _ => exact ⟨_, 226, rfl, by decide, kv_loc [0, 1, 2, 3] rfl (K2 hx)⟩
  | 3, _ => exact ⟨_, 259, rfl, by decide, kv_loc [0, 1, 2, 3] rfl (K3 hx)⟩
  | 4, _ => exact ⟨_, 312, rfl, by decide, kv_loc [0, 1, 2, 3] rfl (K4 hx)⟩
  | 5, _ => exact ⟨_, 355, rfl, by decide, kv_loc [0, 1, 2, 3] rfl (K5 hx)⟩
  | 6, _ => exact ⟨_, 398, rfl, by decide, kv_loc [0, 1, 2, 3] rfl (K6 hx)⟩
  | 7, _ => exact ⟨_, 431, rfl, by decide, kv_loc [0, 1, 2, 3] rfl (K7 hx)⟩
  | 8, _ => exact ⟨_, 454, rfl, by decide, kv_loc [0, 1, 2, 3] rfl (K8 hx)⟩
  | 9, _ => exact ⟨_, 487, rfl, by decide, kv_loc [0, 1, 2, 3] rfl (K9 hx)⟩
  | 10, _ => exact ⟨_, 510, rfl, by decide, kv_loc [0, 1, 2, 3] rfl (K10 hx)⟩
  | 11, _ => exact ⟨_, 553, rfl, by decide, kv_loc [0, 1, 2, 3] rfl (K11 hx)⟩
  | 12, _ => exact ⟨_, 597, rfl, by decide, kv_loc [0, 1, 2, 3] rfl (K12 hx)⟩
  | 13, _ => exact ⟨_, 631, rfl, by decide, kv_loc [0, 1, 2, 3] rfl (K13 hx)⟩
  | 14, _ => exact ⟨_, 674, rfl, by decide, kv_loc [0, 1, 2, 3] rfl (K14 hx)⟩
  | 15, _ => exact ⟨_, 697, rfl, by decide, kv_loc [0, 1, 2, 3] rfl (K15 hx)⟩
  | 16, _ => exact ⟨_, 720, rfl, by decide, kv_loc [0, 1, 2, 3] rfl (K16 hx)⟩
  | 17, _ => exact ⟨_, 753, rfl, by decide, kv_loc [0, 1, 2, 3] rfl (K17 hx)⟩
  | 18, _ => exact ⟨_, 786, rfl, by decide, kv_loc [0, 1, 2, 3] rfl (K18 hx)⟩
  | 19, _ => exact ⟨_, 819, rfl, by decide, kv_loc [0, 1, 2, 3] rfl (K19 hx)⟩
  | k + 20, h => exact absurd h (by omega)
theorem bl_Law_law_128 {d : Nat} {B : kv_B} {Q : kv_Q} {kc ks n : Nat} {S : kv_SM} {I : kv_IM} {a1 : Nat} {a2 : Nat} {v3 : Int32} {j1 : Nat} {dc kcc ksc : Nat} {Qy : kv_Q} {r2 : Nat → Option Nat} (hi1 : v3 + 1 = nI j1 ∧ j1 < B.2.2.1 ∧ B.2.2.1 < 2 ^ 31) (hO2 : S a1 = kO 5 r2) (hM : kv_T y_Cb_seed dc kcc ksc B [.ref a1, .int (B.2.2.2 j1)] n S I Qy) (hdp : dc + 1 ≤ d) (hkk : kcc ≤ kc) (hkl : ksc ≤ ks) (K : ∀ v n' S' I', Qy v n' S' I' → kv_V y_Law_law d B Q (kc - kcc) (ks - ksc) n' S' I' 137 [(0, .ref B.2.1), (1, .ref a1), (2, .ref a2), (3, .int v3)] (v.toList ++ [])) : kv_V y_Law_law d B Q kc ks n S I 128 [(0, .ref B.2.1), (1, .ref a1), (2, .ref a2), (3, .int v3)] [] := by
  refine kv_aload_n dd_Law_law_128 rfl ?_
  refine kv_aload_n dd_Law_law_129 rfl ?_
  refine kv_iload_n dd_Law_law_130 rfl ?_
  refine kv_iconst (v := 1) dd_Law_law_131 (by decide) ?_
  refine kv_iadd dd_Law_law_132 ?_
  refine kv_sld j1 dd_Law_law_133 hi1.1 hi1.2.1 hi1.2.2 ?_
  exact kv_callV [.int (B.2.2.2 j1)] [] ls_Law_13 hO2 hM dd_Law_law_134 rfl hdp (Nat.le_of_ble_eq_true rfl) hkk hkl (fun v n' S' I' hv => kv_loc [0, 1, 2, 3] rfl (K v n' S' I' hv))
theorem bl_Law_law_137 {d : Nat} {B : kv_B} {Q : kv_Q} {kc ks n : Nat} {S : kv_SM} {I : kv_IM} {a1 : Nat} {a2 : Nat} {v3 : Int32} {t0 : Int32} {j1 : Nat} {dc kcc ksc : Nat} {Qy : kv_Q} {r2 : Nat → Option Nat} (hi1 : v3 + 1 = nI j1 ∧ j1 < B.2.2.1 ∧ B.2.2.1 < 2 ^ 31) (hO2 : S a2 = kO 6 r2) (hM : kv_T y_Md_seed dc kcc ksc B [.ref a2, .int (B.2.2.2 j1)] n S I Qy) (hdp : dc + 1 ≤ d) (hkk : kcc ≤ kc) (hkl : ksc ≤ ks) (K : ∀ v n' S' I', Qy v n' S' I' → kv_V y_Law_law d B Q (kc - kcc) (ks - ksc) n' S' I' 146 [(0, .ref B.2.1), (1, .ref a1), (2, .ref a2), (3, .int v3)] (v.toList ++ [.int t0])) : kv_V y_Law_law d B Q kc ks n S I 137 [(0, .ref B.2.1), (1, .ref a1), (2, .ref a2), (3, .int v3)] [.int t0] := by
  refine kv_aload_n dd_Law_law_137 rfl ?_
  refine kv_aload_n dd_Law_law_138 rfl ?_
  refine kv_iload_n dd_Law_law_139 rfl ?_
  refine kv_iconst (v := 1) dd_Law_law_140 (by decide) ?_
  refine kv_iadd dd_Law_law_141 ?_
  refine kv_sld j1 dd_Law_law_142 hi1.1 hi1.2.1 hi1.2.2 ?_
  exact kv_callV [.int (B.2.2.2 j1)] [.int t0] ls_Law_17 hO2 hM dd_Law_law_143 rfl hdp (Nat.le_of_ble_eq_true rfl) hkk hkl (fun v n' S' I' hv => kv_loc [0, 1, 2, 3] rfl (K v n' S' I' hv))
theorem bl_Law_law_146 {d : Nat} {B : kv_B} {Q : kv_Q} {kc ks n : Nat} {S : kv_SM} {I : kv_IM} {a1 : Nat} {a2 : Nat} {v3 : Int32} {t0 : Int32} {t1 : Int32} (Kt : t1 = t0 → kv_V y_Law_law d B Q kc ks n S I 842 [(0, .ref B.2.1), (1, .ref a1), (2, .ref a2), (3, .int v3)] []) (Kf : ¬ t1 = t0 → kv_V y_Law_law d B Q kc ks n S I 149 [(0, .ref B.2.1), (1, .ref a1), (2, .ref a2), (3, .int v3)] []) : kv_V y_Law_law d B Q kc ks n S I 146 [(0, .ref B.2.1), (1, .ref a1), (2, .ref a2), (3, .int v3)] [.int t0, .int t1] := by
  exact kv_icmp_eq 842 dd_Law_law_146 (by decide) (fun h => kv_loc [0, 1, 2, 3] rfl (Kt h)) (fun h => kv_loc [0, 1, 2, 3] rfl (Kf h))
theorem bl_Law_law_149 {d : Nat} {B : kv_B} {Q : kv_Q} {kc ks n : Nat} {S : kv_SM} {I : kv_IM} {a1 : Nat} {a2 : Nat} {v3 : Int32} (hQ : Q (some (.int 0)) n S I) : kv_V y_Law_law d B Q kc ks n S I 149 [(0, .ref B.2.1), (1, .ref a1), (2, .ref a2), (3, .int v3)] [] := by
  refine kv_iconst (v := 0) dd_Law_law_149 (by decide) ?_
  exact kv_end (v := some (.int 0)) hQ ⟨dd_Law_law_150, .boolean, rfl, rfl⟩
theorem bl_Law_law_151 {d : Nat} {B : kv_B} {Q : kv_Q} {kc ks n : Nat} {S : kv_SM} {I : kv_IM} {a1 : Nat} {a2 : Nat} {v3 : Int32} {j1 : Nat} {j2 : Nat} {j3 : Nat} {j4 : Nat} {j5 : Nat} {j6 : Nat} {dc kcc ksc : Nat} {Qy : kv_Q} {r7 : Nat → Option Nat} (hi1 : v3 + 1 = nI j1 ∧ j1 < B.2.2.1 ∧ B.2.2.1 < 2 ^ 31) (hi2 : v3 + 2 = nI j2 ∧ j2 < B.2.2.1 ∧ B.2.2.1 < 2 ^ 31) (hi3 : v3 + 3 = nI j3 ∧ j3 < B.2.2.1 ∧ B.2.2.1 < 2 ^ 31) (hi4 : v3 + 4 = nI j4 ∧ j4 < B.2.2.1 ∧ B.2.2.1 < 2 ^ 31) (hi5 : v3 + 5 = nI j5 ∧ j5 < B.2.2.1 ∧ B.2.2.1 < 2 ^ 31) (hi6 : v3 + 6 = nI j6 ∧ j6 < B.2.2.1 ∧ B.2.2.1 < 2 ^ 31) (hO7 : S a1 = kO 5 r7) (hM : kv_T y_Cb_rule dc kcc ksc B [.ref a1, .int (B.2.2.2 j1), .int (B.2.2.2 j2), .int (B.2.2.2 j3), .int (B.2.2.2 j4), .int (B.2.2.2 j5), .int (B.2.2.2 j6)] n S I Qy) (hdp : dc + 1 ≤ d) (hkk : kcc ≤ kc) (hkl : ksc ≤ ks) (K : ∀ v n' S' I', Qy v n' S' I' → kv_V y_Law_law d B Q (kc - kcc) (ks - ksc) n' S' I' 186 [(0, .ref B.2.1), (1, .ref a1), (2, .ref a2), (3, .int v3)] (v.toList ++ [])) : kv_V y_Law_law d B Q kc ks n S I 151 [(0, .ref B.2.1), (1, .ref a1), (2, .ref a2), (3, .int v3)] [] := by
  refine kv_aload_n dd_Law_law_151 rfl ?_
  refine kv_aload_n dd_Law_law_152 rfl ?_
  refine kv_iload_n dd_Law_law_153 rfl ?_
  refine kv_iconst (v := 1) dd_Law_law_154 (by decide) ?_
  refine kv_iadd dd_Law_law_155 ?_
  refine kv_sld j1 dd_Law_law_156 hi1.1 hi1.2.1 hi1.2.2 ?_
  refine kv_aload_n dd_Law_law_157 rfl ?_
  refine kv_iload_n dd_Law_law_158 rfl ?_
  refine kv_iconst (v := 2) dd_Law_law_159 (by decide) ?_
  refine kv_iadd dd_Law_law_160 ?_
  refine kv_sld j2 dd_Law_law_161 hi2.1 hi2.2.1 hi2.2.2 ?_
  refine kv_aload_n dd_Law_law_162 rfl ?_
  refine kv_iload_n dd_Law_law_163 rfl ?_
  refine kv_iconst (v := 3) dd_Law_law_164 (by decide) ?_
  refine kv_iadd dd_Law_law_165 ?_
  refine kv_sld j3 dd_Law_law_166 hi3.1 hi3.2.1 hi3.2.2 ?_
  refine kv_aload_n dd_Law_law_167 rfl ?_
  refine kv_iload_n dd_Law_law_168 rfl ?_
  refine kv_iconst (v := 4) dd_Law_law_169 (by decide) ?_
  refine kv_iadd dd_Law_law_170 ?_
  refine kv_sld j4 dd_Law_law_171 hi4.1 hi4.2.1 hi4.2.2 ?_
  refine kv_aload_n dd_Law_law_172 rfl ?_
  refine kv_iload_n dd_Law_law_173 rfl ?_
  refine kv_iconst (v := 5) dd_Law_law_174 (by decide) ?_
  refine kv_iadd dd_Law_law_175 ?_
  refine kv_sld j5 dd_Law_law_176 hi5.1 hi5.2.1 hi5.2.2 ?_
  refine kv_aload_n dd_Law_law_177 rfl ?_
  refine kv_iload_n dd_Law_law_178 rfl ?_
  refine kv_bipush (v := 6) dd_Law_law_179 (by decide) ?_
  refine kv_iadd dd_Law_law_181 ?_
  refine kv_sld j6 dd_Law_law_182 hi6.1 hi6.2.1 hi6.2.2 ?_
  exact kv_callV [.int (B.2.2.2 j1), .int (B.2.2.2 j2), .int (B.2.2.2 j3), .int (B.2.2.2 j4), .int (B.2.2.2 j5), .int (B.2.2.2 j6)] [] ls_Law_18 hO7 hM dd_Law_law_183 rfl hdp (Nat.le_of_ble_eq_true rfl) hkk hkl (fun v n' S' I' hv => kv_loc [0, 1, 2, 3] rfl (K v n' S' I' hv))
theorem bl_Law_law_186 {d : Nat} {B : kv_B} {Q : kv_Q} {kc ks n : Nat} {S : kv_SM} {I : kv_IM} {a1 : Nat} {a2 : Nat} {v3 : Int32} {t0 : Int32} {j1 : Nat} {j2 : Nat} {j3 : Nat} {j4 : Nat} {j5 : Nat} {j6 : Nat} {dc kcc ksc : Nat} {Qy : kv_Q} {r7 : Nat → Option Nat} (hi1 : v3 + 1 = nI j1 ∧ j1 < B.2.2.1 ∧ B.2.2.1 < 2 ^ 31) (hi2 : v3 + 2 = nI j2 ∧ j2 < B.2.2.1 ∧ B.2.2.1 < 2 ^ 31) (hi3 : v3 + 3 = nI j3 ∧ j3 < B.2.2.1 ∧ B.2.2.1 < 2 ^ 31) (hi4 : v3 + 4 = nI j4 ∧ j4 < B.2.2.1 ∧ B.2.2.1 < 2 ^ 31) (hi5 : v3 + 5 = nI j5 ∧ j5 < B.2.2.1 ∧ B.2.2.1 < 2 ^ 31) (hi6 : v3 + 6 = nI j6 ∧ j6 < B.2.2.1 ∧ B.2.2.1 < 2 ^ 31) (hO7 : S a2 = kO 6 r7) (hM : kv_T y_Md_rule dc kcc ksc B [.ref a2, .int (B.2.2.2 j1), .int (B.2.2.2 j2), .int (B.2.2.2 j3), .int (B.2.2.2 j4), .int (B.2.2.2 j5), .int (B.2.2.2 j6)] n S I Qy) (hdp : dc + 1 ≤ d) (hkk : kcc ≤ kc) (hkl : ksc ≤ ks) (K : ∀ v n' S' I', Qy v n' S' I' → kv_V y_Law_law d B Q (kc - kcc) (ks - ksc) n' S' I' 221 [(0, .ref B.2.1), (1, .ref a1), (2, .ref a2), (3, .int v3)] (v.toList ++ [.int t0])) : kv_V y_Law_law d B Q kc ks n S I 186 [(0, .ref B.2.1), (1, .ref a1), (2, .ref a2), (3, .int v3)] [.int t0] := by
  refine kv_aload_n dd_Law_law_186 rfl ?_
  refine kv_aload_n dd_Law_law_187 rfl ?_
  refine kv_iload_n dd_Law_law_188 rfl ?_
  refine kv_iconst (v := 1) dd_Law_law_189 (by decide) ?_
  refine kv_iadd dd_Law_law_190 ?_
  refine kv_sld j1 dd_Law_law_191 hi1.1 hi1.2.1 hi1.2.2 ?_
  refine kv_aload_n dd_Law_law_192 rfl ?_
  refine kv_iload_n dd_Law_law_193 rfl ?_
  refine kv_iconst (v := 2) dd_Law_law_194 (by decide) ?_
  refine kv_iadd dd_Law_law_195 ?_
  refine kv_sld j2 dd_Law_law_196 hi2.1 hi2.2.1 hi2.2.2 ?_
  refine kv_aload_n dd_Law_law_197 rfl ?_
  refine kv_iload_n dd_Law_law_198 rfl ?_
  refine kv_iconst (v := 3) dd_Law_law_199 (by decide) ?_
  refine kv_iadd dd_Law_law_200 ?_
  refine kv_sld j3 dd_Law_law_201 hi3.1 hi3.2.1 hi3.2.2 ?_
  refine kv_aload_n dd_Law_law_202 rfl ?_
  refine kv_iload_n dd_Law_law_203 rfl ?_
  refine kv_iconst (v := 4) dd_Law_law_204 (by decide) ?_
  refine kv_iadd dd_Law_law_205 ?_
  refine kv_sld j4 dd_Law_law_206 hi4.1 hi4.2.1 hi4.2.2 ?_
  refine kv_aload_n dd_Law_law_207 rfl ?_
  refine kv_iload_n dd_Law_law_208 rfl ?_
  refine kv_iconst (v := 5) dd_Law_law_209 (by decide) ?_
  refine kv_iadd dd_Law_law_210 ?_
  refine kv_sld j5 dd_Law_law_211 hi5.1 hi5.2.1 hi5.2.2 ?_
  refine kv_aload_n dd_Law_law_212 rfl ?_
  refine kv_iload_n dd_Law_law_213 rfl ?_
  refine kv_bipush (v := 6) dd_Law_law_214 (by decide) ?_
  refine kv_iadd dd_Law_law_216 ?_
  refine kv_sld j6 dd_Law_law_217 hi6.1 hi6.2.1 hi6.2.2 ?_
  exact kv_callV [.int (B.2.2.2 j1), .int (B.2.2.2 j2), .int (B.2.2.2 j3), .int (B.2.2.2 j4), .int (B.2.2.2 j5), .int (B.2.2.2 j6)] [.int t0] ls_Law_22 hO7 hM dd_Law_law_218 rfl hdp (Nat.le_of_ble_eq_true rfl) hkk hkl (fun v n' S' I' hv => kv_loc [0, 1, 2, 3] rfl (K v n' S' I' hv))
theorem bl_Law_law_221 {d : Nat} {B : kv_B} {Q : kv_Q} {kc ks n : Nat} {S : kv_SM} {I : kv_IM} {a1 : Nat} {a2 : Nat} {v3 : Int32} {t0 : Int32} {t1 : Int32} (Kt : t1 = t0 → kv_V y_Law_law d B Q kc ks n S I 842 [(0, .ref B.2.1), (1, .ref a1), (2, .ref a2), (3, .int v3)] []) (Kf : ¬ t1 = t0 → kv_V y_Law_law d B Q kc ks n S I 224 [(0, .ref B.2.1), (1, .ref a1), (2, .ref a2), (3, .int v3)] []) : kv_V y_Law_law d B Q kc ks n S I 221 [(0, .ref B.2.1), (1, .ref a1), (2, .ref a2), (3, .int v3)] [.int t0, .int t1] := by
  exact kv_icmp_eq 842 dd_Law_law_221 (by decide) (fun h => kv_loc [0, 1, 2, 3] rfl (Kt h)) (fun h => kv_loc [0, 1, 2, 3] rfl (Kf h))
theorem bl_Law_law_224 {d : Nat} {B : kv_B} {Q : kv_Q} {kc ks n : Nat} {S : kv_SM} {I : kv_IM} {a1 : Nat} {a2 : Nat} {v3 : Int32} (hQ : Q (some (.int 0)) n S I) : kv_V y_Law_law d B Q kc ks n S I 224 [(0, .ref B.2.1), (1, .ref a1), (2, .ref a2), (3, .int v3)] [] := by
  refine kv_iconst (v := 0) dd_Law_law_224 (by decide) ?_
  exact kv_end (v := some (.int 0)) hQ ⟨dd_Law_law_225, .boolean, rfl, rfl⟩
theorem bl_Law_law_226 {d : Nat} {B : kv_B} {Q : kv_Q} {kc ks n : Nat} {S : kv_SM} {I : kv_IM} {a1 : Nat} {a2 : Nat} {v3 : Int32} {j1 : Nat} {j2 : Nat} {dc kcc ksc : Nat} {Qy : kv_Q} {r3 : Nat → Option Nat} (hi1 : v3 + 1 = nI j1 ∧ j1 < B.2.2.1 ∧ B.2.2.1 < 2 ^ 31) (hi2 : v3 + 2 = nI j2 ∧ j2 < B.2.2.1 ∧ B.2.2.1 < 2 ^ 31) (hO3 : S a1 = kO 5 r3) (hM : kv_T y_Cb_add dc kcc ksc B [.ref a1, .int (B.2.2.2 j1), .int (B.2.2.2 j2)] n S I Qy) (hdp : dc + 1 ≤ d) (hkk : kcc ≤ kc) (hkl : ksc ≤ ks) (K : ∀ v n' S' I', Qy v n' S' I' → kv_V y_Law_law d B Q (kc - kcc) (ks - ksc) n' S' I' 240 [(0, .ref B.2.1), (1, .ref a1), (2, .ref a2), (3, .int v3)] (v.toList ++ [])) : kv_V y_Law_law d B Q kc ks n S I 226 [(0, .ref B.2.1), (1, .ref a1), (2, .ref a2), (3, .int v3)] [] := by
  refine kv_aload_n dd_Law_law_226 rfl ?_
  refine kv_aload_n dd_Law_law_227 rfl ?_
  refine kv_iload_n dd_Law_law_228 rfl ?_
  refine kv_iconst (v := 1) dd_Law_law_229 (by decide) ?_
  refine kv_iadd dd_Law_law_230 ?_
  refine kv_sld j1 dd_Law_law_231 hi1.1 hi1.2.1 hi1.2.2 ?_
  refine kv_aload_n dd_Law_law_232 rfl ?_
  refine kv_iload_n dd_Law_law_233 rfl ?_
  refine kv_iconst (v := 2) dd_Law_law_234 (by decide) ?_
  refine kv_iadd dd_Law_law_235 ?_
  refine kv_sld j2 dd_Law_law_236 hi2.1 hi2.2.1 hi2.2.2 ?_
  exact kv_callV [.int (B.2.2.2 j1), .int (B.2.2.2 j2)] [] ls_Law_23 hO3 hM dd_Law_law_237 rfl hdp (Nat.le_of_ble_eq_true rfl) hkk hkl (fun v n' S' I' hv => kv_loc [0, 1, 2, 3] rfl (K v n' S' I' hv))
theorem bl_Law_law_240 {d : Nat} {B : kv_B} {Q : kv_Q} {kc ks n : Nat} {S : kv_SM} {I : kv_IM} {a1 : Nat} {a2 : Nat} {v3 : Int32} {t0 : Int32} {j1 : Nat} {j2 : Nat} {dc kcc ksc : Nat} {Qy : kv_Q} {r3 : Nat → Option Nat} (hi1 : v3 + 1 = nI j1 ∧ j1 < B.2.2.1 ∧ B.2.2.1 < 2 ^ 31) (hi2 : v3 + 2 = nI j2 ∧ j2 < B.2.2.1 ∧ B.2.2.1 < 2 ^ 31) (hO3 : S a2 = kO 6 r3) (hM : kv_T y_Md_add dc kcc ksc B [.ref a2, .int (B.2.2.2 j1), .int (B.2.2.2 j2)] n S I Qy) (hdp : dc + 1 ≤ d) (hkk : kcc ≤ kc) (hkl : ksc ≤ ks) (K : ∀ v n' S' I', Qy v n' S' I' → kv_V y_Law_law d B Q (kc - kcc) (ks - ksc) n' S' I' 254 [(0, .ref B.2.1), (1, .ref a1), (2, .ref a2), (3, .int v3)] (v.toList ++ [.int t0])) : kv_V y_Law_law d B Q kc ks n S I 240 [(0, .ref B.2.1), (1, .ref a1), (2, .ref a2), (3, .int v3)] [.int t0] := by
  refine kv_aload_n dd_Law_law_240 rfl ?_
  refine kv_aload_n dd_Law_law_241 rfl ?_
  refine kv_iload_n dd_Law_law_242 rfl ?_
  refine kv_iconst (v := 1) dd_Law_law_243 (by decide) ?_
  refine kv_iadd dd_Law_law_244 ?_
  refine kv_sld j1 dd_Law_law_245 hi1.1 hi1.2.1 hi1.2.2 ?_
  refine kv_aload_n dd_Law_law_246 rfl ?_
  refine kv_iload_n dd_Law_law_247 rfl ?_
  refine kv_iconst (v := 2) dd_Law_law_248 (by decide) ?_
  refine kv_iadd dd_Law_law_249 ?_
  refine kv_sld j2 dd_Law_law_250 hi2.1 hi2.2.1 hi2.2.2 ?_
  exact kv_callV [.int (B.2.2.2 j1), .int (B.2.2.2 j2)] [.int t0] ls_Law_27 hO3 hM dd_Law_law_251 rfl hdp (Nat.le_of_ble_eq_true rfl) hkk hkl (fun v n' S' I' hv => kv_loc [0, 1, 2, 3] rfl (K v n' S' I' hv))
theorem bl_Law_law_254 {d : Nat} {B : kv_B} {Q : kv_Q} {kc ks n : Nat} {S : kv_SM} {I : kv_IM} {a1 : Nat} {a2 : Nat} {v3 : Int32} {t0 : Int32} {t1 : Int32} (Kt : t1 = t0 → kv_V y_Law_law d B Q kc ks n S I 842 [(0, .ref B.2.1), (1, .ref a1), (2, .ref a2), (3, .int v3)] []) (Kf : ¬ t1 = t0 → kv_V y_Law_law d B Q kc ks n S I 257 [(0, .ref B.2.1), (1, .ref a1), (2, .ref a2), (3, .int v3)] []) : kv_V y_Law_law d B Q kc ks n S I 254 [(0, .ref B.2.1), (1, .ref a1), (2, .ref a2), (3, .int v3)] [.int t0, .int t1] := by
  exact kv_icmp_eq 842 dd_Law_law_254 (by decide) (fun h => kv_loc [0, 1, 2, 3] rfl (Kt h)) (fun h => kv_loc [0, 1, 2, 3] rfl (Kf h))
theorem bl_Law_law_257 {d : Nat} {B : kv_B} {Q : kv_Q} {kc ks n : Nat} {S : kv_SM} {I : kv_IM} {a1 : Nat} {a2 : Nat} {v3 : Int32} (hQ : Q (some (.int 0)) n S I) : kv_V y_Law_law d B Q kc ks n S I 257 [(0, .ref B.2.1), (1, .ref a1), (2, .ref a2), (3, .int v3)] [] := by
  refine kv_iconst (v := 0) dd_Law_law_257 (by decide) ?_
  exact kv_end (v := some (.int 0)) hQ ⟨dd_Law_law_258, .boolean, rfl, rfl⟩
theorem bl_Law_law_259 {d : Nat} {B : kv_B} {Q : kv_Q} {kc ks n : Nat} {S : kv_SM} {I : kv_IM} {a1 : Nat} {a2 : Nat} {v3 : Int32} {j1 : Nat} {j2 : Nat} {j3 : Nat} {j4 : Nat} {dc kcc ksc : Nat} {Qy : kv_Q} {r5 : Nat → Option Nat} (hi1 : v3 + 1 = nI j1 ∧ j1 < B.2.2.1 ∧ B.2.2.1 < 2 ^ 31) (hi2 : v3 + 2 = nI j2 ∧ j2 < B.2.2.1 ∧ B.2.2.1 < 2 ^ 31) (hi3 : v3 + 3 = nI j3 ∧ j3 < B.2.2.1 ∧ B.2.2.1 < 2 ^ 31) (hi4 : v3 + 4 = nI j4 ∧ j4 < B.2.2.1 ∧ B.2.2.1 < 2 ^ 31) (hO5 : S a1 = kO 5 r5) (hM : kv_T y_Cb_fill dc kcc ksc B [.ref a1, .int (B.2.2.2 j1), .int (B.2.2.2 j2), .int (B.2.2.2 j3), .int (B.2.2.2 j4)] n S I Qy) (hdp : dc + 1 ≤ d) (hkk : kcc ≤ kc) (hkl : ksc ≤ ks) (K : ∀ v n' S' I', Qy v n' S' I' → kv_V y_Law_law d B Q (kc - kcc) (ks - ksc) n' S' I' 283 [(0, .ref B.2.1), (1, .ref a1), (2, .ref a2), (3, .int v3)] (v.toList ++ [])) : kv_V y_Law_law d B Q kc ks n S I 259 [(0, .ref B.2.1), (1, .ref a1), (2, .ref a2), (3, .int v3)] [] := by
  refine kv_aload_n dd_Law_law_259 rfl ?_
  refine kv_aload_n dd_Law_law_260 rfl ?_
  refine kv_iload_n dd_Law_law_261 rfl ?_
  refine kv_iconst (v := 1) dd_Law_law_262 (by decide) ?_
  refine kv_iadd dd_Law_law_263 ?_
  refine kv_sld j1 dd_Law_law_264 hi1.1 hi1.2.1 hi1.2.2 ?_
  refine kv_aload_n dd_Law_law_265 rfl ?_
  refine kv_iload_n dd_Law_law_266 rfl ?_
  refine kv_iconst (v := 2) dd_Law_law_267 (by decide) ?_
  refine kv_iadd dd_Law_law_268 ?_
  refine kv_sld j2 dd_Law_law_269 hi2.1 hi2.2.1 hi2.2.2 ?_
  refine kv_aload_n dd_Law_law_270 rfl ?_
  refine kv_iload_n dd_Law_law_271 rfl ?_
  refine kv_iconst (v := 3) dd_Law_law_272 (by decide) ?_
  refine kv_iadd dd_Law_law_273 ?_
  refine kv_sld j3 dd_Law_law_274 hi3.1 hi3.2.1 hi3.2.2 ?_
  refine kv_aload_n dd_Law_law_275 rfl ?_
  refine kv_iload_n dd_Law_law_276 rfl ?_
  refine kv_iconst (v := 4) dd_Law_law_277 (by decide) ?_
  refine kv_iadd dd_Law_law_278 ?_
  refine kv_sld j4 dd_Law_law_279 hi4.1 hi4.2.1 hi4.2.2 ?_
  exact kv_callV [.int (B.2.2.2 j1), .int (B.2.2.2 j2), .int (B.2.2.2 j3), .int (B.2.2.2 j4)] [] ls_Law_28 hO5 hM dd_Law_law_280 rfl hdp (Nat.le_of_ble_eq_true rfl) hkk hkl (fun v n' S' I' hv => kv_loc [0, 1, 2, 3] rfl (K v n' S' I' hv))
theorem bl_Law_law_283 {d : Nat} {B : kv_B} {Q : kv_Q} {kc ks n : Nat} {S : kv_SM} {I : kv_IM} {a1 : Nat} {a2 : Nat} {v3 : Int32} {t0 : Int32} {j1 : Nat} {j2 : Nat} {j3 : Nat} {j4 : Nat} {dc kcc ksc : Nat} {Qy : kv_Q} {r5 : Nat → Option Nat} (hi1 : v3 + 1 = nI j1 ∧ j1 < B.2.2.1 ∧ B.2.2.1 < 2 ^ 31) (hi2 : v3 + 2 = nI j2 ∧ j2 < B.2.2.1 ∧ B.2.2.1 < 2 ^ 31) (hi3 : v3 + 3 = nI j3 ∧ j3 < B.2.2.1 ∧ B.2.2.1 < 2 ^ 31) (hi4 : v3 + 4 = nI j4 ∧ j4 < B.2.2.1 ∧ B.2.2.1 < 2 ^ 31) (hO5 : S a2 = kO 6 r5) (hM : kv_T y_Md_fill dc kcc ksc B [.ref a2, .int (B.2.2.2 j1), .int (B.2.2.2 j2), .int (B.2.2.2 j3), .int (B.2.2.2 j4)] n S I Qy) (hdp : dc + 1 ≤ d) (hkk : kcc ≤ kc) (hkl : ksc ≤ ks) (K : ∀ v n' S' I', Qy v n' S' I' → kv_V y_Law_law d B Q (kc - kcc) (ks - ksc) n' S' I' 307 [(0, .ref B.2.1), (1, .ref a1), (2, .ref a2), (3, .int v3)] (v.toList ++ [.int t0])) : kv_V y_Law_law d B Q kc ks n S I 283 [(0, .ref B.2.1), (1, .ref a1), (2, .ref a2), (3, .int v3)] [.int t0] := by
  refine kv_aload_n dd_Law_law_283 rfl ?_
  refine kv_aload_n dd_Law_law_284 rfl ?_
  refine kv_iload_n dd_Law_law_285 rfl ?_
  refine kv_iconst (v := 1) dd_Law_law_286 (by decide) ?_
  refine kv_iadd dd_Law_law_287 ?_
  refine kv_sld j1 dd_Law_law_288 hi1.1 hi1.2.1 hi1.2.2 ?_
  refine kv_aload_n dd_Law_law_289 rfl ?_
  refine kv_iload_n dd_Law_law_290 rfl ?_
  refine kv_iconst (v := 2) dd_Law_law_291 (by decide) ?_
  refine kv_iadd dd_Law_law_292 ?_
  refine kv_sld j2 dd_Law_law_293 hi2.1 hi2.2.1 hi2.2.2 ?_
  refine kv_aload_n dd_Law_law_294 rfl ?_
  refine kv_iload_n dd_Law_law_295 rfl ?_
  refine kv_iconst (v := 3) dd_Law_law_296 (by decide) ?_
  refine kv_iadd dd_Law_law_297 ?_
  refine kv_sld j3 dd_Law_law_298 hi3.1 hi3.2.1 hi3.2.2 ?_
  refine kv_aload_n dd_Law_law_299 rfl ?_
  refine kv_iload_n dd_Law_law_300 rfl ?_
  refine kv_iconst (v := 4) dd_Law_law_301 (by decide) ?_
  refine kv_iadd dd_Law_law_302 ?_
  refine kv_sld j4 dd_Law_law_303 hi4.1 hi4.2.1 hi4.2.2 ?_
  exact kv_callV [.int (B.2.2.2 j1), .int (B.2.2.2 j2), .int (B.2.2.2 j3), .int (B.2.2.2 j4)] [.int t0] ls_Law_32 hO5 hM dd_Law_law_304 rfl hdp (Nat.le_of_ble_eq_true rfl) hkk hkl (fun v n' S' I' hv => kv_loc [0, 1, 2, 3] rfl (K v n' S' I' hv))
theorem bl_Law_law_307 {d : Nat} {B : kv_B} {Q : kv_Q} {kc ks n : Nat} {S : kv_SM} {I : kv_IM} {a1 : Nat} {a2 : Nat} {v3 : Int32} {t0 : Int32} {t1 : Int32} (Kt : t1 = t0 → kv_V y_Law_law d B Q kc ks n S I 842 [(0, .ref B.2.1), (1, .ref a1), (2, .ref a2), (3, .int v3)] []) (Kf : ¬ t1 = t0 → kv_V y_Law_law d B Q kc ks n S I 310 [(0, .ref B.2.1), (1, .ref a1), (2, .ref a2), (3, .int v3)] []) : kv_V y_Law_law d B Q kc ks n S I 307 [(0, .ref B.2.1), (1, .ref a1), (2, .ref a2), (3, .int v3)] [.int t0, .int t1] := by
  exact kv_icmp_eq 842 dd_Law_law_307 (by decide) (fun h => kv_loc [0, 1, 2, 3] rfl (Kt h)) (fun h => kv_loc [0, 1, 2, 3] rfl (Kf h))
theorem bl_Law_law_310 {d : Nat} {B : kv_B} {Q : kv_Q} {kc ks n : Nat} {S : kv_SM} {I : kv_IM} {a1 : Nat} {a2 : Nat} {v3 : Int32} (hQ : Q (some (.int 0)) n S I) : kv_V y_Law_law d B Q kc ks n S I 310 [(0, .ref B.2.1), (1, .ref a1), (2, .ref a2), (3, .int v3)] [] := by
  refine kv_iconst (v := 0) dd_Law_law_310 (by decide) ?_
  exact kv_end (v := some (.int 0)) hQ ⟨dd_Law_law_311, .boolean, rfl, rfl⟩
theorem bl_Law_law_312 {d : Nat} {B : kv_B} {Q : kv_Q} {kc ks n : Nat} {S : kv_SM} {I : kv_IM} {a1 : Nat} {a2 : Nat} {v3 : Int32} {j1 : Nat} {j2 : Nat} {j3 : Nat} {dc kcc ksc : Nat} {Qy : kv_Q} {r4 : Nat → Option Nat} (hi1 : v3 + 1 = nI j1 ∧ j1 < B.2.2.1 ∧ B.2.2.1 < 2 ^ 31) (hi2 : v3 + 2 = nI j2 ∧ j2 < B.2.2.1 ∧ B.2.2.1 < 2 ^ 31) (hi3 : v3 + 3 = nI j3 ∧ j3 < B.2.2.1 ∧ B.2.2.1 < 2 ^ 31) (hO4 : S a1 = kO 5 r4) (hM : kv_T y_Cb_insert dc kcc ksc B [.ref a1, .int (B.2.2.2 j1), .int (B.2.2.2 j2), .int (B.2.2.2 j3)] n S I Qy) (hdp : dc + 1 ≤ d) (hkk : kcc ≤ kc) (hkl : ksc ≤ ks) (K : ∀ v n' S' I', Qy v n' S' I' → kv_V y_Law_law d B Q (kc - kcc) (ks - ksc) n' S' I' 331 [(0, .ref B.2.1), (1, .ref a1), (2, .ref a2), (3, .int v3)] (v.toList ++ [])) : kv_V y_Law_law d B Q kc ks n S I 312 [(0, .ref B.2.1), (1, .ref a1), (2, .ref a2), (3, .int v3)] [] := by
  refine kv_aload_n dd_Law_law_312 rfl ?_
  refine kv_aload_n dd_Law_law_313 rfl ?_
  refine kv_iload_n dd_Law_law_314 rfl ?_
  refine kv_iconst (v := 1) dd_Law_law_315 (by decide) ?_
  refine kv_iadd dd_Law_law_316 ?_
  refine kv_sld j1 dd_Law_law_317 hi1.1 hi1.2.1 hi1.2.2 ?_
  refine kv_aload_n dd_Law_law_318 rfl ?_
  refine kv_iload_n dd_Law_law_319 rfl ?_
  refine kv_iconst (v := 2) dd_Law_law_320 (by decide) ?_
  refine kv_iadd dd_Law_law_321 ?_
  refine kv_sld j2 dd_Law_law_322 hi2.1 hi2.2.1 hi2.2.2 ?_
  refine kv_aload_n dd_Law_law_323 rfl ?_
  refine kv_iload_n dd_Law_law_324 rfl ?_
  refine kv_iconst (v := 3) dd_Law_law_325 (by decide) ?_
  refine kv_iadd dd_Law_law_326 ?_
  refine kv_sld j3 dd_Law_law_327 hi3.1 hi3.2.1 hi3.2.2 ?_
  exact kv_callV [.int (B.2.2.2 j1), .int (B.2.2.2 j2), .int (B.2.2.2 j3)] [] ls_Law_33 hO4 hM dd_Law_law_328 rfl hdp (Nat.le_of_ble_eq_true rfl) hkk hkl (fun v n' S' I' hv => kv_loc [0, 1, 2, 3] rfl (K v n' S' I' hv))
theorem bl_Law_law_331 {d : Nat} {B : kv_B} {Q : kv_Q} {kc ks n : Nat} {S : kv_SM} {I : kv_IM} {a1 : Nat} {a2 : Nat} {v3 : Int32} {t0 : Int32} {j1 : Nat} {j2 : Nat} {j3 : Nat} {dc kcc ksc : Nat} {Qy : kv_Q} {r4 : Nat → Option Nat} (hi1 : v3 + 1 = nI j1 ∧ j1 < B.2.2.1 ∧ B.2.2.1 < 2 ^ 31) (hi2 : v3 + 2 = nI j2 ∧ j2 < B.2.2.1 ∧ B.2.2.1 < 2 ^ 31) (hi3 : v3 + 3 = nI j3 ∧ j3 < B.2.2.1 ∧ B.2.2.1 < 2 ^ 31) (hO4 : S a2 = kO 6 r4) (hM : kv_T y_Md_insert dc kcc ksc B [.ref a2, .int (B.2.2.2 j1), .int (B.2.2.2 j2), .int (B.2.2.2 j3)] n S I Qy) (hdp : dc + 1 ≤ d) (hkk : kcc ≤ kc) (hkl : ksc ≤ ks) (K : ∀ v n' S' I', Qy v n' S' I' → kv_V y_Law_law d B Q (kc - kcc) (ks - ksc) n' S' I' 350 [(0, .ref B.2.1), (1, .ref a1), (2, .ref a2), (3, .int v3)] (v.toList ++ [.int t0])) : kv_V y_Law_law d B Q kc ks n S I 331 [(0, .ref B.2.1), (1, .ref a1), (2, .ref a2), (3, .int v3)] [.int t0] := by
  refine kv_aload_n dd_Law_law_331 rfl ?_
  refine kv_aload_n dd_Law_law_332 rfl ?_
  refine kv_iload_n dd_Law_law_333 rfl ?_
  refine kv_iconst (v := 1) dd_Law_law_334 (by decide) ?_
  refine kv_iadd dd_Law_law_335 ?_
  refine kv_sld j1 dd_Law_law_336 hi1.1 hi1.2.1 hi1.2.2 ?_
  refine kv_aload_n dd_Law_law_337 rfl ?_
  refine kv_iload_n dd_Law_law_338 rfl ?_
  refine kv_iconst (v := 2) dd_Law_law_339 (by decide) ?_
  refine kv_iadd dd_Law_law_340 ?_
  refine kv_sld j2 dd_Law_law_341 hi2.1 hi2.2.1 hi2.2.2 ?_
  refine kv_aload_n dd_Law_law_342 rfl ?_
  refine kv_iload_n dd_Law_law_343 rfl ?_
  refine kv_iconst (v := 3) dd_Law_law_344 (by decide) ?_
  refine kv_iadd dd_Law_law_345 ?_
  refine kv_sld j3 dd_Law_law_346 hi3.1 hi3.2.1 hi3.2.2 ?_
  exact kv_callV [.int (B.2.2.2 j1), .int (B.2.2.2 j2), .int (B.2.2.2 j3)] [.int t0] ls_Law_37 hO4 hM dd_Law_law_347 rfl hdp (Nat.le_of_ble_eq_true rfl) hkk hkl (fun v n' S' I' hv => kv_loc [0, 1, 2, 3] rfl (K v n' S' I' hv))
theorem bl_Law_law_350 {d : Nat} {B : kv_B} {Q : kv_Q} {kc ks n : Nat} {S : kv_SM} {I : kv_IM} {a1 : Nat} {a2 : Nat} {v3 : Int32} {t0 : Int32} {t1 : Int32} (Kt : t1 = t0 → kv_V y_Law_law d B Q kc ks n S I 842 [(0, .ref B.2.1), (1, .ref a1), (2, .ref a2), (3, .int v3)] []) (Kf : ¬ t1 = t0 → kv_V y_Law_law d B Q kc ks n S I 353 [(0, .ref B.2.1), (1, .ref a1), (2, .ref a2), (3, .int v3)] []) : kv_V y_Law_law d B Q kc ks n S I 350 [(0, .ref B.2.1), (1, .ref a1), (2, .ref a2), (3, .int v3)] [.int t0, .int t1] := by
  exact kv_icmp_eq 842 dd_Law_law_350 (by decide) (fun h => kv_loc [0, 1, 2, 3] rfl (Kt h)) (fun h => kv_loc [0, 1, 2, 3] rfl (Kf h))
theorem bl_Law_law_353 {d : Nat} {B : kv_B} {Q : kv_Q} {kc ks n : Nat} {S : kv_SM} {I : kv_IM} {a1 : Nat} {a2 : Nat} {v3 : Int32} (hQ : Q (some (.int 0)) n S I) : kv_V y_Law_law d B Q kc ks n S I 353 [(0, .ref B.2.1), (1, .ref a1), (2, .ref a2), (3, .int v3)] [] := by
  refine kv_iconst (v := 0) dd_Law_law_353 (by decide) ?_
  exact kv_end (v := some (.int 0)) hQ ⟨dd_Law_law_354, .boolean, rfl, rfl⟩
theorem bl_Law_law_355 {d : Nat} {B : kv_B} {Q : kv_Q} {kc ks n : Nat} {S : kv_SM} {I : kv_IM} {a1 : Nat} {a2 : Nat} {v3 : Int32} {j1 : Nat} {j2 : Nat} {j3 : Nat} {dc kcc ksc : Nat} {Qy : kv_Q} {r4 : Nat → Option Nat} (hi1 : v3 + 1 = nI j1 ∧ j1 < B.2.2.1 ∧ B.2.2.1 < 2 ^ 31) (hi2 : v3 + 2 = nI j2 ∧ j2 < B.2.2.1 ∧ B.2.2.1 < 2 ^ 31) (hi3 : v3 + 3 = nI j3 ∧ j3 < B.2.2.1 ∧ B.2.2.1 < 2 ^ 31) (hO4 : S a1 = kO 5 r4) (hM : kv_T y_Cb_remove dc kcc ksc B [.ref a1, .int (B.2.2.2 j1), .int (B.2.2.2 j2), .int (B.2.2.2 j3)] n S I Qy) (hdp : dc + 1 ≤ d) (hkk : kcc ≤ kc) (hkl : ksc ≤ ks) (K : ∀ v n' S' I', Qy v n' S' I' → kv_V y_Law_law d B Q (kc - kcc) (ks - ksc) n' S' I' 374 [(0, .ref B.2.1), (1, .ref a1), (2, .ref a2), (3, .int v3)] (v.toList ++ [])) : kv_V y_Law_law d B Q kc ks n S I 355 [(0, .ref B.2.1), (1, .ref a1), (2, .ref a2), (3, .int v3)] [] := by
  refine kv_aload_n dd_Law_law_355 rfl ?_
  refine kv_aload_n dd_Law_law_356 rfl ?_
  refine kv_iload_n dd_Law_law_357 rfl ?_
  refine kv_iconst (v := 1) dd_Law_law_358 (by decide) ?_
  refine kv_iadd dd_Law_law_359 ?_
  refine kv_sld j1 dd_Law_law_360 hi1.1 hi1.2.1 hi1.2.2 ?_
  refine kv_aload_n dd_Law_law_361 rfl ?_
  refine kv_iload_n dd_Law_law_362 rfl ?_
  refine kv_iconst (v := 2) dd_Law_law_363 (by decide) ?_
  refine kv_iadd dd_Law_law_364 ?_
  refine kv_sld j2 dd_Law_law_365 hi2.1 hi2.2.1 hi2.2.2 ?_
  refine kv_aload_n dd_Law_law_366 rfl ?_
  refine kv_iload_n dd_Law_law_367 rfl ?_
  refine kv_iconst (v := 3) dd_Law_law_368 (by decide) ?_
  refine kv_iadd dd_Law_law_369 ?_
  refine kv_sld j3 dd_Law_law_370 hi3.1 hi3.2.1 hi3.2.2 ?_
  exact kv_callV [.int (B.2.2.2 j1), .int (B.2.2.2 j2), .int (B.2.2.2 j3)] [] ls_Law_38 hO4 hM dd_Law_law_371 rfl hdp (Nat.le_of_ble_eq_true rfl) hkk hkl (fun v n' S' I' hv => kv_loc [0, 1, 2, 3] rfl (K v n' S' I' hv))
theorem bl_Law_law_374 {d : Nat} {B : kv_B} {Q : kv_Q} {kc ks n : Nat} {S : kv_SM} {I : kv_IM} {a1 : Nat} {a2 : Nat} {v3 : Int32} {t0 : Int32} {j1 : Nat} {j2 : Nat} {j3 : Nat} {dc kcc ksc : Nat} {Qy : kv_Q} {r4 : Nat → Option Nat} (hi1 : v3 + 1 = nI j1 ∧ j1 < B.2.2.1 ∧ B.2.2.1 < 2 ^ 31) (hi2 : v3 + 2 = nI j2 ∧ j2 < B.2.2.1 ∧ B.2.2.1 < 2 ^ 31) (hi3 : v3 + 3 = nI j3 ∧ j3 < B.2.2.1 ∧ B.2.2.1 < 2 ^ 31) (hO4 : S a2 = kO 6 r4) (hM : kv_T y_Md_remove dc kcc ksc B [.ref a2, .int (B.2.2.2 j1), .int (B.2.2.2 j2), .int (B.2.2.2 j3)] n S I Qy) (hdp : dc + 1 ≤ d) (hkk : kcc ≤ kc) (hkl : ksc ≤ ks) (K : ∀ v n' S' I', Qy v n' S' I' → kv_V y_Law_law d B Q (kc - kcc) (ks - ksc) n' S' I' 393 [(0, .ref B.2.1), (1, .ref a1), (2, .ref a2), (3, .int v3)] (v.toList ++ [.int t0])) : kv_V y_Law_law d B Q kc ks n S I 374 [(0, .ref B.2.1), (1, .ref a1), (2, .ref a2), (3, .int v3)] [.int t0] := by
  refine kv_aload_n dd_Law_law_374 rfl ?_
  refine kv_aload_n dd_Law_law_375 rfl ?_
  refine kv_iload_n dd_Law_law_376 rfl ?_
  refine kv_iconst (v := 1) dd_Law_law_377 (by decide) ?_
  refine kv_iadd dd_Law_law_378 ?_
  refine kv_sld j1 dd_Law_law_379 hi1.1 hi1.2.1 hi1.2.2 ?_
  refine kv_aload_n dd_Law_law_380 rfl ?_
  refine kv_iload_n dd_Law_law_381 rfl ?_
  refine kv_iconst (v := 2) dd_Law_law_382 (by decide) ?_
  refine kv_iadd dd_Law_law_383 ?_
  refine kv_sld j2 dd_Law_law_384 hi2.1 hi2.2.1 hi2.2.2 ?_
  refine kv_aload_n dd_Law_law_385 rfl ?_
  refine kv_iload_n dd_Law_law_386 rfl ?_
  refine kv_iconst (v := 3) dd_Law_law_387 (by decide) ?_
  refine kv_iadd dd_Law_law_388 ?_
  refine kv_sld j3 dd_Law_law_389 hi3.1 hi3.2.1 hi3.2.2 ?_
  exact kv_callV [.int (B.2.2.2 j1), .int (B.2.2.2 j2), .int (B.2.2.2 j3)] [.int t0] ls_Law_41 hO4 hM dd_Law_law_390 rfl hdp (Nat.le_of_ble_eq_true rfl) hkk hkl (fun v n' S' I' hv => kv_loc [0, 1, 2, 3] rfl (K v n' S' I' hv))
theorem bl_Law_law_393 {d : Nat} {B : kv_B} {Q : kv_Q} {kc ks n : Nat} {S : kv_SM} {I : kv_IM} {a1 : Nat} {a2 : Nat} {v3 : Int32} {t0 : Int32} {t1 : Int32} (Kt : t1 = t0 → kv_V y_Law_law d B Q kc ks n S I 842 [(0, .ref B.2.1), (1, .ref a1), (2, .ref a2), (3, .int v3)] []) (Kf : ¬ t1 = t0 → kv_V y_Law_law d B Q kc ks n S I 396 [(0, .ref B.2.1), (1, .ref a1), (2, .ref a2), (3, .int v3)] []) : kv_V y_Law_law d B Q kc ks n S I 393 [(0, .ref B.2.1), (1, .ref a1), (2, .ref a2), (3, .int v3)] [.int t0, .int t1] := by
  exact kv_icmp_eq 842 dd_Law_law_393 (by decide) (fun h => kv_loc [0, 1, 2, 3] rfl (Kt h)) (fun h => kv_loc [0, 1, 2, 3] rfl (Kf h))
theorem bl_Law_law_396 {d : Nat} {B : kv_B} {Q : kv_Q} {kc ks n : Nat} {S : kv_SM} {I : kv_IM} {a1 : Nat} {a2 : Nat} {v3 : Int32} (hQ : Q (some (.int 0)) n S I) : kv_V y_Law_law d B Q kc ks n S I 396 [(0, .ref B.2.1), (1, .ref a1), (2, .ref a2), (3, .int v3)] [] := by
  refine kv_iconst (v := 0) dd_Law_law_396 (by decide) ?_
  exact kv_end (v := some (.int 0)) hQ ⟨dd_Law_law_397, .boolean, rfl, rfl⟩
theorem bl_Law_law_398 {d : Nat} {B : kv_B} {Q : kv_Q} {kc ks n : Nat} {S : kv_SM} {I : kv_IM} {a1 : Nat} {a2 : Nat} {v3 : Int32} {j1 : Nat} {j2 : Nat} {dc kcc ksc : Nat} {Qy : kv_Q} {r3 : Nat → Option Nat} (hi1 : v3 + 1 = nI j1 ∧ j1 < B.2.2.1 ∧ B.2.2.1 < 2 ^ 31) (hi2 : v3 + 2 = nI j2 ∧ j2 < B.2.2.1 ∧ B.2.2.1 < 2 ^ 31) (hO3 : S a1 = kO 5 r3) (hM : kv_T y_Cb_copy dc kcc ksc B [.ref a1, .int (B.2.2.2 j1), .int (B.2.2.2 j2)] n S I Qy) (hdp : dc + 1 ≤ d) (hkk : kcc ≤ kc) (hkl : ksc ≤ ks) (K : ∀ v n' S' I', Qy v n' S' I' → kv_V y_Law_law d B Q (kc - kcc) (ks - ksc) n' S' I' 412 [(0, .ref B.2.1), (1, .ref a1), (2, .ref a2), (3, .int v3)] (v.toList ++ [])) : kv_V y_Law_law d B Q kc ks n S I 398 [(0, .ref B.2.1), (1, .ref a1), (2, .ref a2), (3, .int v3)] [] := by
  refine kv_aload_n dd_Law_law_398 rfl ?_
  refine kv_aload_n dd_Law_law_399 rfl ?_
  refine kv_iload_n dd_Law_law_400 rfl ?_
  refine kv_iconst (v := 1) dd_Law_law_401 (by decide) ?_
  refine kv_iadd dd_Law_law_402 ?_
  refine kv_sld j1 dd_Law_law_403 hi1.1 hi1.2.1 hi1.2.2 ?_
  refine kv_aload_n dd_Law_law_404 rfl ?_
  refine kv_iload_n dd_Law_law_405 rfl ?_
  refine kv_iconst (v := 2) dd_Law_law_406 (by decide) ?_
  refine kv_iadd dd_Law_law_407 ?_
  refine kv_sld j2 dd_Law_law_408 hi2.1 hi2.2.1 hi2.2.2 ?_
  exact kv_callV [.int (B.2.2.2 j1), .int (B.2.2.2 j2)] [] ls_Law_42 hO3 hM dd_Law_law_409 rfl hdp (Nat.le_of_ble_eq_true rfl) hkk hkl (fun v n' S' I' hv => kv_loc [0, 1, 2, 3] rfl (K v n' S' I' hv))
theorem bl_Law_law_412 {d : Nat} {B : kv_B} {Q : kv_Q} {kc ks n : Nat} {S : kv_SM} {I : kv_IM} {a1 : Nat} {a2 : Nat} {v3 : Int32} {t0 : Int32} {j1 : Nat} {j2 : Nat} {dc kcc ksc : Nat} {Qy : kv_Q} {r3 : Nat → Option Nat} (hi1 : v3 + 1 = nI j1 ∧ j1 < B.2.2.1 ∧ B.2.2.1 < 2 ^ 31) (hi2 : v3 + 2 = nI j2 ∧ j2 < B.2.2.1 ∧ B.2.2.1 < 2 ^ 31) (hO3 : S a2 = kO 6 r3) (hM : kv_T y_Md_copy dc kcc ksc B [.ref a2, .int (B.2.2.2 j1), .int (B.2.2.2 j2)] n S I Qy) (hdp : dc + 1 ≤ d) (hkk : kcc ≤ kc) (hkl : ksc ≤ ks) (K : ∀ v n' S' I', Qy v n' S' I' → kv_V y_Law_law d B Q (kc - kcc) (ks - ksc) n' S' I' 426 [(0, .ref B.2.1), (1, .ref a1), (2, .ref a2), (3, .int v3)] (v.toList ++ [.int t0])) : kv_V y_Law_law d B Q kc ks n S I 412 [(0, .ref B.2.1), (1, .ref a1), (2, .ref a2), (3, .int v3)] [.int t0] := by
  refine kv_aload_n dd_Law_law_412 rfl ?_
  refine kv_aload_n dd_Law_law_413 rfl ?_
  refine kv_iload_n dd_Law_law_414 rfl ?_
  refine kv_iconst (v := 1) dd_Law_law_415 (by decide) ?_
  refine kv_iadd dd_Law_law_416 ?_
  refine kv_sld j1 dd_Law_law_417 hi1.1 hi1.2.1 hi1.2.2 ?_
  refine kv_aload_n dd_Law_law_418 rfl ?_
  refine kv_iload_n dd_Law_law_419 rfl ?_
  refine kv_iconst (v := 2) dd_Law_law_420 (by decide) ?_
  refine kv_iadd dd_Law_law_421 ?_
  refine kv_sld j2 dd_Law_law_422 hi2.1 hi2.2.1 hi2.2.2 ?_
  exact kv_callV [.int (B.2.2.2 j1), .int (B.2.2.2 j2)] [.int t0] ls_Law_45 hO3 hM dd_Law_law_423 rfl hdp (Nat.le_of_ble_eq_true rfl) hkk hkl (fun v n' S' I' hv => kv_loc [0, 1, 2, 3] rfl (K v n' S' I' hv))
theorem bl_Law_law_426 {d : Nat} {B : kv_B} {Q : kv_Q} {kc ks n : Nat} {S : kv_SM} {I : kv_IM} {a1 : Nat} {a2 : Nat} {v3 : Int32} {t0 : Int32} {t1 : Int32} (Kt : t1 = t0 → kv_V y_Law_law d B Q kc ks n S I 842 [(0, .ref B.2.1), (1, .ref a1), (2, .ref a2), (3, .int v3)] []) (Kf : ¬ t1 = t0 → kv_V y_Law_law d B Q kc ks n S I 429 [(0, .ref B.2.1), (1, .ref a1), (2, .ref a2), (3, .int v3)] []) : kv_V y_Law_law d B Q kc ks n S I 426 [(0, .ref B.2.1), (1, .ref a1), (2, .ref a2), (3, .int v3)] [.int t0, .int t1] := by
  exact kv_icmp_eq 842 dd_Law_law_426 (by decide) (fun h => kv_loc [0, 1, 2, 3] rfl (Kt h)) (fun h => kv_loc [0, 1, 2, 3] rfl (Kf h))
theorem bl_Law_law_429 {d : Nat} {B : kv_B} {Q : kv_Q} {kc ks n : Nat} {S : kv_SM} {I : kv_IM} {a1 : Nat} {a2 : Nat} {v3 : Int32} (hQ : Q (some (.int 0)) n S I) : kv_V y_Law_law d B Q kc ks n S I 429 [(0, .ref B.2.1), (1, .ref a1), (2, .ref a2), (3, .int v3)] [] := by
  refine kv_iconst (v := 0) dd_Law_law_429 (by decide) ?_
  exact kv_end (v := some (.int 0)) hQ ⟨dd_Law_law_430, .boolean, rfl, rfl⟩
theorem bl_Law_law_431 {d : Nat} {B : kv_B} {Q : kv_Q} {kc ks n : Nat} {S : kv_SM} {I : kv_IM} {a1 : Nat} {a2 : Nat} {v3 : Int32} {j1 : Nat} {dc kcc ksc : Nat} {Qy : kv_Q} {r2 : Nat → Option Nat} (hi1 : v3 + 1 = nI j1 ∧ j1 < B.2.2.1 ∧ B.2.2.1 < 2 ^ 31) (hO2 : S a1 = kO 5 r2) (hM : kv_T y_Cb_size dc kcc ksc B [.ref a1, .int (B.2.2.2 j1)] n S I Qy) (hdp : dc + 1 ≤ d) (hkk : kcc ≤ kc) (hkl : ksc ≤ ks) (K : ∀ v n' S' I', Qy v n' S' I' → kv_V y_Law_law d B Q (kc - kcc) (ks - ksc) n' S' I' 440 [(0, .ref B.2.1), (1, .ref a1), (2, .ref a2), (3, .int v3)] (v.toList ++ [])) : kv_V y_Law_law d B Q kc ks n S I 431 [(0, .ref B.2.1), (1, .ref a1), (2, .ref a2), (3, .int v3)] [] := by
  refine kv_aload_n dd_Law_law_431 rfl ?_
  refine kv_aload_n dd_Law_law_432 rfl ?_
  refine kv_iload_n dd_Law_law_433 rfl ?_
  refine kv_iconst (v := 1) dd_Law_law_434 (by decide) ?_
  refine kv_iadd dd_Law_law_435 ?_
  refine kv_sld j1 dd_Law_law_436 hi1.1 hi1.2.1 hi1.2.2 ?_
  exact kv_callV [.int (B.2.2.2 j1)] [] ls_Law_46 hO2 hM dd_Law_law_437 rfl hdp (Nat.le_of_ble_eq_true rfl) hkk hkl (fun v n' S' I' hv => kv_loc [0, 1, 2, 3] rfl (K v n' S' I' hv))
theorem bl_Law_law_440 {d : Nat} {B : kv_B} {Q : kv_Q} {kc ks n : Nat} {S : kv_SM} {I : kv_IM} {a1 : Nat} {a2 : Nat} {v3 : Int32} {t0 : Int32} {j1 : Nat} {dc kcc ksc : Nat} {Qy : kv_Q} {r2 : Nat → Option Nat} (hi1 : v3 + 1 = nI j1 ∧ j1 < B.2.2.1 ∧ B.2.2.1 < 2 ^ 31) (hO2 : S a2 = kO 6 r2) (hM : kv_T y_Md_size dc kcc ksc B [.ref a2, .int (B.2.2.2 j1)] n S I Qy) (hdp : dc + 1 ≤ d) (hkk : kcc ≤ kc) (hkl : ksc ≤ ks) (K : ∀ v n' S' I', Qy v n' S' I' → kv_V y_Law_law d B Q (kc - kcc) (ks - ksc) n' S' I' 449 [(0, .ref B.2.1), (1, .ref a1), (2, .ref a2), (3, .int v3)] (v.toList ++ [.int t0])) : kv_V y_Law_law d B Q kc ks n S I 440 [(0, .ref B.2.1), (1, .ref a1), (2, .ref a2), (3, .int v3)] [.int t0] := by
  refine kv_aload_n dd_Law_law_440 rfl ?_
  refine kv_aload_n dd_Law_law_441 rfl ?_
  refine kv_iload_n dd_Law_law_442 rfl ?_
  refine kv_iconst (v := 1) dd_Law_law_443 (by decide) ?_
  refine kv_iadd dd_Law_law_444 ?_
  refine kv_sld j1 dd_Law_law_445 hi1.1 hi1.2.1 hi1.2.2 ?_
  exact kv_callV [.int (B.2.2.2 j1)] [.int t0] ls_Law_49 hO2 hM dd_Law_law_446 rfl hdp (Nat.le_of_ble_eq_true rfl) hkk hkl (fun v n' S' I' hv => kv_loc [0, 1, 2, 3] rfl (K v n' S' I' hv))
theorem bl_Law_law_449 {d : Nat} {B : kv_B} {Q : kv_Q} {kc ks n : Nat} {S : kv_SM} {I : kv_IM} {a1 : Nat} {a2 : Nat} {v3 : Int32} {t0 : Int32} {t1 : Int32} (Kt : t1 = t0 → kv_V y_Law_law d B Q kc ks n S I 842 [(0, .ref B.2.1), (1, .ref a1), (2, .ref a2), (3, .int v3)] []) (Kf : ¬ t1 = t0 → kv_V y_Law_law d B Q kc ks n S I 452 [(0, .ref B.2.1), (1, .ref a1), (2, .ref a2), (3, .int v3)] []) : kv_V y_Law_law d B Q kc ks n S I 449 [(0, .ref B.2.1), (1, .ref a1), (2, .ref a2), (3, .int v3)] [.int t0, .int t1] := by
  exact kv_icmp_eq 842 dd_Law_law_449 (by decide) (fun h => kv_loc [0, 1, 2, 3] rfl (Kt h)) (fun h => kv_loc [0, 1, 2, 3] rfl (Kf h))
theorem bl_Law_law_452 {d : Nat} {B : kv_B} {Q : kv_Q} {kc ks n : Nat} {S : kv_SM} {I : kv_IM} {a1 : Nat} {a2 : Nat} {v3 : Int32} (hQ : Q (some (.int 0)) n S I) : kv_V y_Law_law d B Q kc ks n S I 452 [(0, .ref B.2.1), (1, .ref a1), (2, .ref a2), (3, .int v3)] [] := by
  refine kv_iconst (v := 0) dd_Law_law_452 (by decide) ?_
  exact kv_end (v := some (.int 0)) hQ ⟨dd_Law_law_453, .boolean, rfl, rfl⟩
theorem bl_Law_law_454 {d : Nat} {B : kv_B} {Q : kv_Q} {kc ks n : Nat} {S : kv_SM} {I : kv_IM} {a1 : Nat} {a2 : Nat} {v3 : Int32} {j1 : Nat} {j2 : Nat} {dc kcc ksc : Nat} {Qy : kv_Q} {r3 : Nat → Option Nat} (hi1 : v3 + 1 = nI j1 ∧ j1 < B.2.2.1 ∧ B.2.2.1 < 2 ^ 31) (hi2 : v3 + 2 = nI j2 ∧ j2 < B.2.2.1 ∧ B.2.2.1 < 2 ^ 31) (hO3 : S a1 = kO 5 r3) (hM : kv_T y_Cb_byteAt dc kcc ksc B [.ref a1, .int (B.2.2.2 j1), .int (B.2.2.2 j2)] n S I Qy) (hdp : dc + 1 ≤ d) (hkk : kcc ≤ kc) (hkl : ksc ≤ ks) (K : ∀ v n' S' I', Qy v n' S' I' → kv_V y_Law_law d B Q (kc - kcc) (ks - ksc) n' S' I' 468 [(0, .ref B.2.1), (1, .ref a1), (2, .ref a2), (3, .int v3)] (v.toList ++ [])) : kv_V y_Law_law d B Q kc ks n S I 454 [(0, .ref B.2.1), (1, .ref a1), (2, .ref a2), (3, .int v3)] [] := by
  refine kv_aload_n dd_Law_law_454 rfl ?_
  refine kv_aload_n dd_Law_law_455 rfl ?_
  refine kv_iload_n dd_Law_law_456 rfl ?_
  refine kv_iconst (v := 1) dd_Law_law_457 (by decide) ?_
  refine kv_iadd dd_Law_law_458 ?_
  refine kv_sld j1 dd_Law_law_459 hi1.1 hi1.2.1 hi1.2.2 ?_
  refine kv_aload_n dd_Law_law_460 rfl ?_
  refine kv_iload_n dd_Law_law_461 rfl ?_
  refine kv_iconst (v := 2) dd_Law_law_462 (by decide) ?_
  refine kv_iadd dd_Law_law_463 ?_
  refine kv_sld j2 dd_Law_law_464 hi2.1 hi2.2.1 hi2.2.2 ?_
  exact kv_callV [.int (B.2.2.2 j1), .int (B.2.2.2 j2)] [] ls_Law_50 hO3 hM dd_Law_law_465 rfl hdp (Nat.le_of_ble_eq_true rfl) hkk hkl (fun v n' S' I' hv => kv_loc [0, 1, 2, 3] rfl (K v n' S' I' hv))
theorem bl_Law_law_468 {d : Nat} {B : kv_B} {Q : kv_Q} {kc ks n : Nat} {S : kv_SM} {I : kv_IM} {a1 : Nat} {a2 : Nat} {v3 : Int32} {t0 : Int32} {j1 : Nat} {j2 : Nat} {dc kcc ksc : Nat} {Qy : kv_Q} {r3 : Nat → Option Nat} (hi1 : v3 + 1 = nI j1 ∧ j1 < B.2.2.1 ∧ B.2.2.1 < 2 ^ 31) (hi2 : v3 + 2 = nI j2 ∧ j2 < B.2.2.1 ∧ B.2.2.1 < 2 ^ 31) (hO3 : S a2 = kO 6 r3) (hM : kv_T y_Md_byteAt dc kcc ksc B [.ref a2, .int (B.2.2.2 j1), .int (B.2.2.2 j2)] n S I Qy) (hdp : dc + 1 ≤ d) (hkk : kcc ≤ kc) (hkl : ksc ≤ ks) (K : ∀ v n' S' I', Qy v n' S' I' → kv_V y_Law_law d B Q (kc - kcc) (ks - ksc) n' S' I' 482 [(0, .ref B.2.1), (1, .ref a1), (2, .ref a2), (3, .int v3)] (v.toList ++ [.int t0])) : kv_V y_Law_law d B Q kc ks n S I 468 [(0, .ref B.2.1), (1, .ref a1), (2, .ref a2), (3, .int v3)] [.int t0] := by
  refine kv_aload_n dd_Law_law_468 rfl ?_
  refine kv_aload_n dd_Law_law_469 rfl ?_
  refine kv_iload_n dd_Law_law_470 rfl ?_
  refine kv_iconst (v := 1) dd_Law_law_471 (by decide) ?_
  refine kv_iadd dd_Law_law_472 ?_
  refine kv_sld j1 dd_Law_law_473 hi1.1 hi1.2.1 hi1.2.2 ?_
  refine kv_aload_n dd_Law_law_474 rfl ?_
  refine kv_iload_n dd_Law_law_475 rfl ?_
  refine kv_iconst (v := 2) dd_Law_law_476 (by decide) ?_
  refine kv_iadd dd_Law_law_477 ?_
  refine kv_sld j2 dd_Law_law_478 hi2.1 hi2.2.1 hi2.2.2 ?_
  exact kv_callV [.int (B.2.2.2 j1), .int (B.2.2.2 j2)] [.int t0] ls_Law_53 hO3 hM dd_Law_law_479 rfl hdp (Nat.le_of_ble_eq_true rfl) hkk hkl (fun v n' S' I' hv => kv_loc [0, 1, 2, 3] rfl (K v n' S' I' hv))
theorem bl_Law_law_482 {d : Nat} {B : kv_B} {Q : kv_Q} {kc ks n : Nat} {S : kv_SM} {I : kv_IM} {a1 : Nat} {a2 : Nat} {v3 : Int32} {t0 : Int32} {t1 : Int32} (Kt : t1 = t0 → kv_V y_Law_law d B Q kc ks n S I 842 [(0, .ref B.2.1), (1, .ref a1), (2, .ref a2), (3, .int v3)] []) (Kf : ¬ t1 = t0 → kv_V y_Law_law d B Q kc ks n S I 485 [(0, .ref B.2.1), (1, .ref a1), (2, .ref a2), (3, .int v3)] []) : kv_V y_Law_law d B Q kc ks n S I 482 [(0, .ref B.2.1), (1, .ref a1), (2, .ref a2), (3, .int v3)] [.int t0, .int t1] := by
  exact kv_icmp_eq 842 dd_Law_law_482 (by decide) (fun h => kv_loc [0, 1, 2, 3] rfl (Kt h)) (fun h => kv_loc [0, 1, 2, 3] rfl (Kf h))
theorem bl_Law_law_485 {d : Nat} {B : kv_B} {Q : kv_Q} {kc ks n : Nat} {S : kv_SM} {I : kv_IM} {a1 : Nat} {a2 : Nat} {v3 : Int32} (hQ : Q (some (.int 0)) n S I) : kv_V y_Law_law d B Q kc ks n S I 485 [(0, .ref B.2.1), (1, .ref a1), (2, .ref a2), (3, .int v3)] [] := by
  refine kv_iconst (v := 0) dd_Law_law_485 (by decide) ?_
  exact kv_end (v := some (.int 0)) hQ ⟨dd_Law_law_486, .boolean, rfl, rfl⟩
theorem bl_Law_law_487 {d : Nat} {B : kv_B} {Q : kv_Q} {kc ks n : Nat} {S : kv_SM} {I : kv_IM} {a1 : Nat} {a2 : Nat} {v3 : Int32} {j1 : Nat} {dc kcc ksc : Nat} {Qy : kv_Q} {r2 : Nat → Option Nat} (hi1 : v3 + 1 = nI j1 ∧ j1 < B.2.2.1 ∧ B.2.2.1 < 2 ^ 31) (hO2 : S a1 = kO 5 r2) (hM : kv_T y_Cb_blocks dc kcc ksc B [.ref a1, .int (B.2.2.2 j1)] n S I Qy) (hdp : dc + 1 ≤ d) (hkk : kcc ≤ kc) (hkl : ksc ≤ ks) (K : ∀ v n' S' I', Qy v n' S' I' → kv_V y_Law_law d B Q (kc - kcc) (ks - ksc) n' S' I' 496 [(0, .ref B.2.1), (1, .ref a1), (2, .ref a2), (3, .int v3)] (v.toList ++ [])) : kv_V y_Law_law d B Q kc ks n S I 487 [(0, .ref B.2.1), (1, .ref a1), (2, .ref a2), (3, .int v3)] [] := by
  refine kv_aload_n dd_Law_law_487 rfl ?_
  refine kv_aload_n dd_Law_law_488 rfl ?_
  refine kv_iload_n dd_Law_law_489 rfl ?_
  refine kv_iconst (v := 1) dd_Law_law_490 (by decide) ?_
  refine kv_iadd dd_Law_law_491 ?_
  refine kv_sld j1 dd_Law_law_492 hi1.1 hi1.2.1 hi1.2.2 ?_
  exact kv_callV [.int (B.2.2.2 j1)] [] ls_Law_54 hO2 hM dd_Law_law_493 rfl hdp (Nat.le_of_ble_eq_true rfl) hkk hkl (fun v n' S' I' hv => kv_loc [0, 1, 2, 3] rfl (K v n' S' I' hv))
theorem bl_Law_law_496 {d : Nat} {B : kv_B} {Q : kv_Q} {kc ks n : Nat} {S : kv_SM} {I : kv_IM} {a1 : Nat} {a2 : Nat} {v3 : Int32} {t0 : Int32} {j1 : Nat} {dc kcc ksc : Nat} {Qy : kv_Q} {r2 : Nat → Option Nat} (hi1 : v3 + 1 = nI j1 ∧ j1 < B.2.2.1 ∧ B.2.2.1 < 2 ^ 31) (hO2 : S a2 = kO 6 r2) (hM : kv_T y_Md_blocks dc kcc ksc B [.ref a2, .int (B.2.2.2 j1)] n S I Qy) (hdp : dc + 1 ≤ d) (hkk : kcc ≤ kc) (hkl : ksc ≤ ks) (K : ∀ v n' S' I', Qy v n' S' I' → kv_V y_Law_law d B Q (kc - kcc) (ks - ksc) n' S' I' 505 [(0, .ref B.2.1), (1, .ref a1), (2, .ref a2), (3, .int v3)] (v.toList ++ [.int t0])) : kv_V y_Law_law d B Q kc ks n S I 496 [(0, .ref B.2.1), (1, .ref a1), (2, .ref a2), (3, .int v3)] [.int t0] := by
  refine kv_aload_n dd_Law_law_496 rfl ?_
  refine kv_aload_n dd_Law_law_497 rfl ?_
  refine kv_iload_n dd_Law_law_498 rfl ?_
  refine kv_iconst (v := 1) dd_Law_law_499 (by decide) ?_
  refine kv_iadd dd_Law_law_500 ?_
  refine kv_sld j1 dd_Law_law_501 hi1.1 hi1.2.1 hi1.2.2 ?_
  exact kv_callV [.int (B.2.2.2 j1)] [.int t0] ls_Law_57 hO2 hM dd_Law_law_502 rfl hdp (Nat.le_of_ble_eq_true rfl) hkk hkl (fun v n' S' I' hv => kv_loc [0, 1, 2, 3] rfl (K v n' S' I' hv))
theorem bl_Law_law_505 {d : Nat} {B : kv_B} {Q : kv_Q} {kc ks n : Nat} {S : kv_SM} {I : kv_IM} {a1 : Nat} {a2 : Nat} {v3 : Int32} {t0 : Int32} {t1 : Int32} (Kt : t1 = t0 → kv_V y_Law_law d B Q kc ks n S I 842 [(0, .ref B.2.1), (1, .ref a1), (2, .ref a2), (3, .int v3)] []) (Kf : ¬ t1 = t0 → kv_V y_Law_law d B Q kc ks n S I 508 [(0, .ref B.2.1), (1, .ref a1), (2, .ref a2), (3, .int v3)] []) : kv_V y_Law_law d B Q kc ks n S I 505 [(0, .ref B.2.1), (1, .ref a1), (2, .ref a2), (3, .int v3)] [.int t0, .int t1] := by
  exact kv_icmp_eq 842 dd_Law_law_505 (by decide) (fun h => kv_loc [0, 1, 2, 3] rfl (Kt h)) (fun h => kv_loc [0, 1, 2, 3] rfl (Kf h))
theorem bl_Law_law_508 {d : Nat} {B : kv_B} {Q : kv_Q} {kc ks n : Nat} {S : kv_SM} {I : kv_IM} {a1 : Nat} {a2 : Nat} {v3 : Int32} (hQ : Q (some (.int 0)) n S I) : kv_V y_Law_law d B Q kc ks n S I 508 [(0, .ref B.2.1), (1, .ref a1), (2, .ref a2), (3, .int v3)] [] := by
  refine kv_iconst (v := 0) dd_Law_law_508 (by decide) ?_
  exact kv_end (v := some (.int 0)) hQ ⟨dd_Law_law_509, .boolean, rfl, rfl⟩
theorem bl_Law_law_510 {d : Nat} {B : kv_B} {Q : kv_Q} {kc ks n : Nat} {S : kv_SM} {I : kv_IM} {a1 : Nat} {a2 : Nat} {v3 : Int32} {j1 : Nat} {j2 : Nat} {j3 : Nat} {dc kcc ksc : Nat} {Qy : kv_Q} {r4 : Nat → Option Nat} (hi1 : v3 + 1 = nI j1 ∧ j1 < B.2.2.1 ∧ B.2.2.1 < 2 ^ 31) (hi2 : v3 + 2 = nI j2 ∧ j2 < B.2.2.1 ∧ B.2.2.1 < 2 ^ 31) (hi3 : v3 + 3 = nI j3 ∧ j3 < B.2.2.1 ∧ B.2.2.1 < 2 ^ 31) (hO4 : S a1 = kO 5 r4) (hM : kv_T y_Cb_block dc kcc ksc B [.ref a1, .int (B.2.2.2 j1), .int (B.2.2.2 j2), .int (B.2.2.2 j3)] n S I Qy) (hdp : dc + 1 ≤ d) (hkk : kcc ≤ kc) (hkl : ksc ≤ ks) (K : ∀ v n' S' I', Qy v n' S' I' → kv_V y_Law_law d B Q (kc - kcc) (ks - ksc) n' S' I' 529 [(0, .ref B.2.1), (1, .ref a1), (2, .ref a2), (3, .int v3)] (v.toList ++ [])) : kv_V y_Law_law d B Q kc ks n S I 510 [(0, .ref B.2.1), (1, .ref a1), (2, .ref a2), (3, .int v3)] [] := by
  refine kv_aload_n dd_Law_law_510 rfl ?_
  refine kv_aload_n dd_Law_law_511 rfl ?_
  refine kv_iload_n dd_Law_law_512 rfl ?_
  refine kv_iconst (v := 1) dd_Law_law_513 (by decide) ?_
  refine kv_iadd dd_Law_law_514 ?_
  refine kv_sld j1 dd_Law_law_515 hi1.1 hi1.2.1 hi1.2.2 ?_
  refine kv_aload_n dd_Law_law_516 rfl ?_
  refine kv_iload_n dd_Law_law_517 rfl ?_
  refine kv_iconst (v := 2) dd_Law_law_518 (by decide) ?_
  refine kv_iadd dd_Law_law_519 ?_
  refine kv_sld j2 dd_Law_law_520 hi2.1 hi2.2.1 hi2.2.2 ?_
  refine kv_aload_n dd_Law_law_521 rfl ?_
  refine kv_iload_n dd_Law_law_522 rfl ?_
  refine kv_iconst (v := 3) dd_Law_law_523 (by decide) ?_
  refine kv_iadd dd_Law_law_524 ?_
  refine kv_sld j3 dd_Law_law_525 hi3.1 hi3.2.1 hi3.2.2 ?_
  exact kv_callV [.int (B.2.2.2 j1), .int (B.2.2.2 j2), .int (B.2.2.2 j3)] [] ls_Law_58 hO4 hM dd_Law_law_526 rfl hdp (Nat.le_of_ble_eq_true rfl) hkk hkl (fun v n' S' I' hv => kv_loc [0, 1, 2, 3] rfl (K v n' S' I' hv))
theorem bl_Law_law_529 {d : Nat} {B : kv_B} {Q : kv_Q} {kc ks n : Nat} {S : kv_SM} {I : kv_IM} {a1 : Nat} {a2 : Nat} {v3 : Int32} {t0 : Int32} {j1 : Nat} {j2 : Nat} {j3 : Nat} {dc kcc ksc : Nat} {Qy : kv_Q} {r4 : Nat → Option Nat} (hi1 : v3 + 1 = nI j1 ∧ j1 < B.2.2.1 ∧ B.2.2.1 < 2 ^ 31) (hi2 : v3 + 2 = nI j2 ∧ j2 < B.2.2.1 ∧ B.2.2.1 < 2 ^ 31) (hi3 : v3 + 3 = nI j3 ∧ j3 < B.2.2.1 ∧ B.2.2.1 < 2 ^ 31) (hO4 : S a2 = kO 6 r4) (hM : kv_T y_Md_block dc kcc ksc B [.ref a2, .int (B.2.2.2 j1), .int (B.2.2.2 j2), .int (B.2.2.2 j3)] n S I Qy) (hdp : dc + 1 ≤ d) (hkk : kcc ≤ kc) (hkl : ksc ≤ ks) (K : ∀ v n' S' I', Qy v n' S' I' → kv_V y_Law_law d B Q (kc - kcc) (ks - ksc) n' S' I' 548 [(0, .ref B.2.1), (1, .ref a1), (2, .ref a2), (3, .int v3)] (v.toList ++ [.int t0])) : kv_V y_Law_law d B Q kc ks n S I 529 [(0, .ref B.2.1), (1, .ref a1), (2, .ref a2), (3, .int v3)] [.int t0] := by
  refine kv_aload_n dd_Law_law_529 rfl ?_
  refine kv_aload_n dd_Law_law_530 rfl ?_
  refine kv_iload_n dd_Law_law_531 rfl ?_
  refine kv_iconst (v := 1) dd_Law_law_532 (by decide) ?_
  refine kv_iadd dd_Law_law_533 ?_
  refine kv_sld j1 dd_Law_law_534 hi1.1 hi1.2.1 hi1.2.2 ?_
  refine kv_aload_n dd_Law_law_535 rfl ?_
  refine kv_iload_n dd_Law_law_536 rfl ?_
  refine kv_iconst (v := 2) dd_Law_law_537 (by decide) ?_
  refine kv_iadd dd_Law_law_538 ?_
  refine kv_sld j2 dd_Law_law_539 hi2.1 hi2.2.1 hi2.2.2 ?_
  refine kv_aload_n dd_Law_law_540 rfl ?_
  refine kv_iload_n dd_Law_law_541 rfl ?_
  refine kv_iconst (v := 3) dd_Law_law_542 (by decide) ?_
  refine kv_iadd dd_Law_law_543 ?_
  refine kv_sld j3 dd_Law_law_544 hi3.1 hi3.2.1 hi3.2.2 ?_
  exact kv_callV [.int (B.2.2.2 j1), .int (B.2.2.2 j2), .int (B.2.2.2 j3)] [.int t0] ls_Law_61 hO4 hM dd_Law_law_545 rfl hdp (Nat.le_of_ble_eq_true rfl) hkk hkl (fun v n' S' I' hv => kv_loc [0, 1, 2, 3] rfl (K v n' S' I' hv))
theorem bl_Law_law_548 {d : Nat} {B : kv_B} {Q : kv_Q} {kc ks n : Nat} {S : kv_SM} {I : kv_IM} {a1 : Nat} {a2 : Nat} {v3 : Int32} {t0 : Int32} {t1 : Int32} (Kt : t1 = t0 → kv_V y_Law_law d B Q kc ks n S I 842 [(0, .ref B.2.1), (1, .ref a1), (2, .ref a2), (3, .int v3)] []) (Kf : ¬ t1 = t0 → kv_V y_Law_law d B Q kc ks n S I 551 [(0, .ref B.2.1), (1, .ref a1), (2, .ref a2), (3, .int v3)] []) : kv_V y_Law_law d B Q kc ks n S I 548 [(0, .ref B.2.1), (1, .ref a1), (2, .ref a2), (3, .int v3)] [.int t0, .int t1] := by
  exact kv_icmp_eq 842 dd_Law_law_548 (by decide) (fun h => kv_loc [0, 1, 2, 3] rfl (Kt h)) (fun h => kv_loc [0, 1, 2, 3] rfl (Kf h))
theorem bl_Law_law_551 {d : Nat} {B : kv_B} {Q : kv_Q} {kc ks n : Nat} {S : kv_SM} {I : kv_IM} {a1 : Nat} {a2 : Nat} {v3 : Int32} (hQ : Q (some (.int 0)) n S I) : kv_V y_Law_law d B Q kc ks n S I 551 [(0, .ref B.2.1), (1, .ref a1), (2, .ref a2), (3, .int v3)] [] := by
  refine kv_iconst (v := 0) dd_Law_law_551 (by decide) ?_
  exact kv_end (v := some (.int 0)) hQ ⟨dd_Law_law_552, .boolean, rfl, rfl⟩
theorem bl_Law_law_553 {d : Nat} {B : kv_B} {Q : kv_Q} {kc ks n : Nat} {S : kv_SM} {I : kv_IM} {a1 : Nat} {a2 : Nat} {v3 : Int32} {j1 : Nat} {j2 : Nat} {j3 : Nat} {dc kcc ksc : Nat} {Qy : kv_Q} {r4 : Nat → Option Nat} (hi1 : v3 + 1 = nI j1 ∧ j1 < B.2.2.1 ∧ B.2.2.1 < 2 ^ 31) (hi2 : v3 + 2 = nI j2 ∧ j2 < B.2.2.1 ∧ B.2.2.1 < 2 ^ 31) (hi3 : v3 + 3 = nI j3 ∧ j3 < B.2.2.1 ∧ B.2.2.1 < 2 ^ 31) (hO4 : S a1 = kO 5 r4) (hM : kv_T y_Cb_digest dc kcc ksc B [.ref a1, .int (B.2.2.2 j1), .int (B.2.2.2 j2), .int (B.2.2.2 j3)] n S I Qy) (hdp : dc + 1 ≤ d) (hkk : kcc ≤ kc) (hkl : ksc ≤ ks) (K : ∀ v n' S' I', Qy v n' S' I' → kv_V y_Law_law d B Q (kc - kcc) (ks - ksc) n' S' I' 572 [(0, .ref B.2.1), (1, .ref a1), (2, .ref a2), (3, .int v3)] (v.toList ++ [])) : kv_V y_Law_law d B Q kc ks n S I 553 [(0, .ref B.2.1), (1, .ref a1), (2, .ref a2), (3, .int v3)] [] := by
  refine kv_aload_n dd_Law_law_553 rfl ?_
  refine kv_aload_n dd_Law_law_554 rfl ?_
  refine kv_iload_n dd_Law_law_555 rfl ?_
  refine kv_iconst (v := 1) dd_Law_law_556 (by decide) ?_
  refine kv_iadd dd_Law_law_557 ?_
  refine kv_sld j1 dd_Law_law_558 hi1.1 hi1.2.1 hi1.2.2 ?_
  refine kv_aload_n dd_Law_law_559 rfl ?_
  refine kv_iload_n dd_Law_law_560 rfl ?_
  refine kv_iconst (v := 2) dd_Law_law_561 (by decide) ?_
  refine kv_iadd dd_Law_law_562 ?_
  refine kv_sld j2 dd_Law_law_563 hi2.1 hi2.2.1 hi2.2.2 ?_
  refine kv_aload_n dd_Law_law_564 rfl ?_
  refine kv_iload_n dd_Law_law_565 rfl ?_
  refine kv_iconst (v := 3) dd_Law_law_566 (by decide) ?_
  refine kv_iadd dd_Law_law_567 ?_
  refine kv_sld j3 dd_Law_law_568 hi3.1 hi3.2.1 hi3.2.2 ?_
  exact kv_callV [.int (B.2.2.2 j1), .int (B.2.2.2 j2), .int (B.2.2.2 j3)] [] ls_Law_62 hO4 hM dd_Law_law_569 rfl hdp (Nat.le_of_ble_eq_true rfl) hkk hkl (fun v n' S' I' hv => kv_loc [0, 1, 2, 3] rfl (K v n' S' I' hv))
theorem bl_Law_law_572 {d : Nat} {B : kv_B} {Q : kv_Q} {kc ks n : Nat} {S : kv_SM} {I : kv_IM} {a1 : Nat} {a2 : Nat} {v3 : Int32} {t0 : Int64} {j1 : Nat} {j2 : Nat} {j3 : Nat} {dc kcc ksc : Nat} {Qy : kv_Q} {r4 : Nat → Option Nat} (hi1 : v3 + 1 = nI j1 ∧ j1 < B.2.2.1 ∧ B.2.2.1 < 2 ^ 31) (hi2 : v3 + 2 = nI j2 ∧ j2 < B.2.2.1 ∧ B.2.2.1 < 2 ^ 31) (hi3 : v3 + 3 = nI j3 ∧ j3 < B.2.2.1 ∧ B.2.2.1 < 2 ^ 31) (hO4 : S a2 = kO 6 r4) (hM : kv_T y_Md_digest dc kcc ksc B [.ref a2, .int (B.2.2.2 j1), .int (B.2.2.2 j2), .int (B.2.2.2 j3)] n S I Qy) (hdp : dc + 1 ≤ d) (hkk : kcc ≤ kc) (hkl : ksc ≤ ks) (K : ∀ v n' S' I', Qy v n' S' I' → kv_V y_Law_law d B Q (kc - kcc) (ks - ksc) n' S' I' 591 [(0, .ref B.2.1), (1, .ref a1), (2, .ref a2), (3, .int v3)] (v.toList ++ [.long t0])) : kv_V y_Law_law d B Q kc ks n S I 572 [(0, .ref B.2.1), (1, .ref a1), (2, .ref a2), (3, .int v3)] [.long t0] := by
  refine kv_aload_n dd_Law_law_572 rfl ?_
  refine kv_aload_n dd_Law_law_573 rfl ?_
  refine kv_iload_n dd_Law_law_574 rfl ?_
  refine kv_iconst (v := 1) dd_Law_law_575 (by decide) ?_
  refine kv_iadd dd_Law_law_576 ?_
  refine kv_sld j1 dd_Law_law_577 hi1.1 hi1.2.1 hi1.2.2 ?_
  refine kv_aload_n dd_Law_law_578 rfl ?_
  refine kv_iload_n dd_Law_law_579 rfl ?_
  refine kv_iconst (v := 2) dd_Law_law_580 (by decide) ?_
  refine kv_iadd dd_Law_law_581 ?_
  refine kv_sld j2 dd_Law_law_582 hi2.1 hi2.2.1 hi2.2.2 ?_
  refine kv_aload_n dd_Law_law_583 rfl ?_
  refine kv_iload_n dd_Law_law_584 rfl ?_
  refine kv_iconst (v := 3) dd_Law_law_585 (by decide) ?_
  refine kv_iadd dd_Law_law_586 ?_
  refine kv_sld j3 dd_Law_law_587 hi3.1 hi3.2.1 hi3.2.2 ?_
  exact kv_callV [.int (B.2.2.2 j1), .int (B.2.2.2 j2), .int (B.2.2.2 j3)] [.long t0] ls_Law_66 hO4 hM dd_Law_law_588 rfl hdp (Nat.le_of_ble_eq_true rfl) hkk hkl (fun v n' S' I' hv => kv_loc [0, 1, 2, 3] rfl (K v n' S' I' hv))
theorem bl_Law_law_591 {d : Nat} {B : kv_B} {Q : kv_Q} {kc ks n : Nat} {S : kv_SM} {I : kv_IM} {a1 : Nat} {a2 : Nat} {v3 : Int32} {t0 : Int64} {t1 : Int64} (Kt : (lg_cmp t1 t0) = 0 → kv_V y_Law_law d B Q kc ks n S I 842 [(0, .ref B.2.1), (1, .ref a1), (2, .ref a2), (3, .int v3)] []) (Kf : ¬ (lg_cmp t1 t0) = 0 → kv_V y_Law_law d B Q kc ks n S I 595 [(0, .ref B.2.1), (1, .ref a1), (2, .ref a2), (3, .int v3)] []) : kv_V y_Law_law d B Q kc ks n S I 591 [(0, .ref B.2.1), (1, .ref a1), (2, .ref a2), (3, .int v3)] [.long t0, .long t1] := by
  refine kv_lcmp dd_Law_law_591 ?_
  exact kv_if_eq 842 dd_Law_law_592 (by decide) (fun h => kv_loc [0, 1, 2, 3] rfl (Kt h)) (fun h => kv_loc [0, 1, 2, 3] rfl (Kf h))
theorem bl_Law_law_595 {d : Nat} {B : kv_B} {Q : kv_Q} {kc ks n : Nat} {S : kv_SM} {I : kv_IM} {a1 : Nat} {a2 : Nat} {v3 : Int32} (hQ : Q (some (.int 0)) n S I) : kv_V y_Law_law d B Q kc ks n S I 595 [(0, .ref B.2.1), (1, .ref a1), (2, .ref a2), (3, .int v3)] [] := by
  refine kv_iconst (v := 0) dd_Law_law_595 (by decide) ?_
  exact kv_end (v := some (.int 0)) hQ ⟨dd_Law_law_596, .boolean, rfl, rfl⟩
theorem bl_Law_law_597 {d : Nat} {B : kv_B} {Q : kv_Q} {kc ks n : Nat} {S : kv_SM} {I : kv_IM} {a1 : Nat} {a2 : Nat} {v3 : Int32} {j1 : Nat} {j2 : Nat} {dc kcc ksc : Nat} {Qy : kv_Q} {r3 : Nat → Option Nat} (hi1 : v3 + 1 = nI j1 ∧ j1 < B.2.2.1 ∧ B.2.2.1 < 2 ^ 31) (hi2 : v3 + 2 = nI j2 ∧ j2 < B.2.2.1 ∧ B.2.2.1 < 2 ^ 31) (hO3 : S a1 = kO 5 r3) (hM : kv_T y_Cb_hash dc kcc ksc B [.ref a1, .int (B.2.2.2 j1), .int (B.2.2.2 j2)] n S I Qy) (hdp : dc + 1 ≤ d) (hkk : kcc ≤ kc) (hkl : ksc ≤ ks) (K : ∀ v n' S' I', Qy v n' S' I' → kv_V y_Law_law d B Q (kc - kcc) (ks - ksc) n' S' I' 611 [(0, .ref B.2.1), (1, .ref a1), (2, .ref a2), (3, .int v3)] (v.toList ++ [])) : kv_V y_Law_law d B Q kc ks n S I 597 [(0, .ref B.2.1), (1, .ref a1), (2, .ref a2), (3, .int v3)] [] := by
  refine kv_aload_n dd_Law_law_597 rfl ?_
  refine kv_aload_n dd_Law_law_598 rfl ?_
  refine kv_iload_n dd_Law_law_599 rfl ?_
  refine kv_iconst (v := 1) dd_Law_law_600 (by decide) ?_
  refine kv_iadd dd_Law_law_601 ?_
  refine kv_sld j1 dd_Law_law_602 hi1.1 hi1.2.1 hi1.2.2 ?_
  refine kv_aload_n dd_Law_law_603 rfl ?_
  refine kv_iload_n dd_Law_law_604 rfl ?_
  refine kv_iconst (v := 2) dd_Law_law_605 (by decide) ?_
  refine kv_iadd dd_Law_law_606 ?_
  refine kv_sld j2 dd_Law_law_607 hi2.1 hi2.2.1 hi2.2.2 ?_
  exact kv_callV [.int (B.2.2.2 j1), .int (B.2.2.2 j2)] [] ls_Law_67 hO3 hM dd_Law_law_608 rfl hdp (Nat.le_of_ble_eq_true rfl) hkk hkl (fun v n' S' I' hv => kv_loc [0, 1, 2, 3] rfl (K v n' S' I' hv))
theorem bl_Law_law_611 {d : Nat} {B : kv_B} {Q : kv_Q} {kc ks n : Nat} {S : kv_SM} {I : kv_IM} {a1 : Nat} {a2 : Nat} {v3 : Int32} {t0 : Int64} {j1 : Nat} {j2 : Nat} {dc kcc ksc : Nat} {Qy : kv_Q} {r3 : Nat → Option Nat} (hi1 : v3 + 1 = nI j1 ∧ j1 < B.2.2.1 ∧ B.2.2.1 < 2 ^ 31) (hi2 : v3 + 2 = nI j2 ∧ j2 < B.2.2.1 ∧ B.2.2.1 < 2 ^ 31) (hO3 : S a2 = kO 6 r3) (hM : kv_T y_Md_hash dc kcc ksc B [.ref a2, .int (B.2.2.2 j1), .int (B.2.2.2 j2)] n S I Qy) (hdp : dc + 1 ≤ d) (hkk : kcc ≤ kc) (hkl : ksc ≤ ks) (K : ∀ v n' S' I', Qy v n' S' I' → kv_V y_Law_law d B Q (kc - kcc) (ks - ksc) n' S' I' 625 [(0, .ref B.2.1), (1, .ref a1), (2, .ref a2), (3, .int v3)] (v.toList ++ [.long t0])) : kv_V y_Law_law d B Q kc ks n S I 611 [(0, .ref B.2.1), (1, .ref a1), (2, .ref a2), (3, .int v3)] [.long t0] := by
  refine kv_aload_n dd_Law_law_611 rfl ?_
  refine kv_aload_n dd_Law_law_612 rfl ?_
  refine kv_iload_n dd_Law_law_613 rfl ?_
  refine kv_iconst (v := 1) dd_Law_law_614 (by decide) ?_
  refine kv_iadd dd_Law_law_615 ?_
  refine kv_sld j1 dd_Law_law_616 hi1.1 hi1.2.1 hi1.2.2 ?_
  refine kv_aload_n dd_Law_law_617 rfl ?_
  refine kv_iload_n dd_Law_law_618 rfl ?_
  refine kv_iconst (v := 2) dd_Law_law_619 (by decide) ?_
  refine kv_iadd dd_Law_law_620 ?_
  refine kv_sld j2 dd_Law_law_621 hi2.1 hi2.2.1 hi2.2.2 ?_
  exact kv_callV [.int (B.2.2.2 j1), .int (B.2.2.2 j2)] [.long t0] ls_Law_71 hO3 hM dd_Law_law_622 rfl hdp (Nat.le_of_ble_eq_true rfl) hkk hkl (fun v n' S' I' hv => kv_loc [0, 1, 2, 3] rfl (K v n' S' I' hv))
theorem bl_Law_law_625 {d : Nat} {B : kv_B} {Q : kv_Q} {kc ks n : Nat} {S : kv_SM} {I : kv_IM} {a1 : Nat} {a2 : Nat} {v3 : Int32} {t0 : Int64} {t1 : Int64} (Kt : (lg_cmp t1 t0) = 0 → kv_V y_Law_law d B Q kc ks n S I 842 [(0, .ref B.2.1), (1, .ref a1), (2, .ref a2), (3, .int v3)] []) (Kf : ¬ (lg_cmp t1 t0) = 0 → kv_V y_Law_law d B Q kc ks n S I 629 [(0, .ref B.2.1), (1, .ref a1), (2, .ref a2), (3, .int v3)] []) : kv_V y_Law_law d B Q kc ks n S I 625 [(0, .ref B.2.1), (1, .ref a1), (2, .ref a2), (3, .int v3)] [.long t0, .long t1] := by
  refine kv_lcmp dd_Law_law_625 ?_
  exact kv_if_eq 842 dd_Law_law_626 (by decide) (fun h => kv_loc [0, 1, 2, 3] rfl (Kt h)) (fun h => kv_loc [0, 1, 2, 3] rfl (Kf h))
theorem bl_Law_law_629 {d : Nat} {B : kv_B} {Q : kv_Q} {kc ks n : Nat} {S : kv_SM} {I : kv_IM} {a1 : Nat} {a2 : Nat} {v3 : Int32} (hQ : Q (some (.int 0)) n S I) : kv_V y_Law_law d B Q kc ks n S I 629 [(0, .ref B.2.1), (1, .ref a1), (2, .ref a2), (3, .int v3)] [] := by
  refine kv_iconst (v := 0) dd_Law_law_629 (by decide) ?_
  exact kv_end (v := some (.int 0)) hQ ⟨dd_Law_law_630, .boolean, rfl, rfl⟩
theorem bl_Law_law_631 {d : Nat} {B : kv_B} {Q : kv_Q} {kc ks n : Nat} {S : kv_SM} {I : kv_IM} {a1 : Nat} {a2 : Nat} {v3 : Int32} {j1 : Nat} {j2 : Nat} {j3 : Nat} {dc kcc ksc : Nat} {Qy : kv_Q} {r4 : Nat → Option Nat} (hi1 : v3 + 1 = nI j1 ∧ j1 < B.2.2.1 ∧ B.2.2.1 < 2 ^ 31) (hi2 : v3 + 2 = nI j2 ∧ j2 < B.2.2.1 ∧ B.2.2.1 < 2 ^ 31) (hi3 : v3 + 3 = nI j3 ∧ j3 < B.2.2.1 ∧ B.2.2.1 < 2 ^ 31) (hO4 : S a1 = kO 5 r4) (hM : kv_T y_Cb_alike dc kcc ksc B [.ref a1, .int (B.2.2.2 j1), .int (B.2.2.2 j2), .int (B.2.2.2 j3)] n S I Qy) (hdp : dc + 1 ≤ d) (hkk : kcc ≤ kc) (hkl : ksc ≤ ks) (K : ∀ v n' S' I', Qy v n' S' I' → kv_V y_Law_law d B Q (kc - kcc) (ks - ksc) n' S' I' 650 [(0, .ref B.2.1), (1, .ref a1), (2, .ref a2), (3, .int v3)] (v.toList ++ [])) : kv_V y_Law_law d B Q kc ks n S I 631 [(0, .ref B.2.1), (1, .ref a1), (2, .ref a2), (3, .int v3)] [] := by
  refine kv_aload_n dd_Law_law_631 rfl ?_
  refine kv_aload_n dd_Law_law_632 rfl ?_
  refine kv_iload_n dd_Law_law_633 rfl ?_
  refine kv_iconst (v := 1) dd_Law_law_634 (by decide) ?_
  refine kv_iadd dd_Law_law_635 ?_
  refine kv_sld j1 dd_Law_law_636 hi1.1 hi1.2.1 hi1.2.2 ?_
  refine kv_aload_n dd_Law_law_637 rfl ?_
  refine kv_iload_n dd_Law_law_638 rfl ?_
  refine kv_iconst (v := 2) dd_Law_law_639 (by decide) ?_
  refine kv_iadd dd_Law_law_640 ?_
  refine kv_sld j2 dd_Law_law_641 hi2.1 hi2.2.1 hi2.2.2 ?_
  refine kv_aload_n dd_Law_law_642 rfl ?_
  refine kv_iload_n dd_Law_law_643 rfl ?_
  refine kv_iconst (v := 3) dd_Law_law_644 (by decide) ?_
  refine kv_iadd dd_Law_law_645 ?_
  refine kv_sld j3 dd_Law_law_646 hi3.1 hi3.2.1 hi3.2.2 ?_
  exact kv_callV [.int (B.2.2.2 j1), .int (B.2.2.2 j2), .int (B.2.2.2 j3)] [] ls_Law_72 hO4 hM dd_Law_law_647 rfl hdp (Nat.le_of_ble_eq_true rfl) hkk hkl (fun v n' S' I' hv => kv_loc [0, 1, 2, 3] rfl (K v n' S' I' hv))
theorem bl_Law_law_650 {d : Nat} {B : kv_B} {Q : kv_Q} {kc ks n : Nat} {S : kv_SM} {I : kv_IM} {a1 : Nat} {a2 : Nat} {v3 : Int32} {t0 : Int32} {j1 : Nat} {j2 : Nat} {j3 : Nat} {dc kcc ksc : Nat} {Qy : kv_Q} {r4 : Nat → Option Nat} (hi1 : v3 + 1 = nI j1 ∧ j1 < B.2.2.1 ∧ B.2.2.1 < 2 ^ 31) (hi2 : v3 + 2 = nI j2 ∧ j2 < B.2.2.1 ∧ B.2.2.1 < 2 ^ 31) (hi3 : v3 + 3 = nI j3 ∧ j3 < B.2.2.1 ∧ B.2.2.1 < 2 ^ 31) (hO4 : S a2 = kO 6 r4) (hM : kv_T y_Md_alike dc kcc ksc B [.ref a2, .int (B.2.2.2 j1), .int (B.2.2.2 j2), .int (B.2.2.2 j3)] n S I Qy) (hdp : dc + 1 ≤ d) (hkk : kcc ≤ kc) (hkl : ksc ≤ ks) (K : ∀ v n' S' I', Qy v n' S' I' → kv_V y_Law_law d B Q (kc - kcc) (ks - ksc) n' S' I' 669 [(0, .ref B.2.1), (1, .ref a1), (2, .ref a2), (3, .int v3)] (v.toList ++ [.int t0])) : kv_V y_Law_law d B Q kc ks n S I 650 [(0, .ref B.2.1), (1, .ref a1), (2, .ref a2), (3, .int v3)] [.int t0] := by
  refine kv_aload_n dd_Law_law_650 rfl ?_
  refine kv_aload_n dd_Law_law_651 rfl ?_
  refine kv_iload_n dd_Law_law_652 rfl ?_
  refine kv_iconst (v := 1) dd_Law_law_653 (by decide) ?_
  refine kv_iadd dd_Law_law_654 ?_
  refine kv_sld j1 dd_Law_law_655 hi1.1 hi1.2.1 hi1.2.2 ?_
  refine kv_aload_n dd_Law_law_656 rfl ?_
  refine kv_iload_n dd_Law_law_657 rfl ?_
  refine kv_iconst (v := 2) dd_Law_law_658 (by decide) ?_
  refine kv_iadd dd_Law_law_659 ?_
  refine kv_sld j2 dd_Law_law_660 hi2.1 hi2.2.1 hi2.2.2 ?_
  refine kv_aload_n dd_Law_law_661 rfl ?_
  refine kv_iload_n dd_Law_law_662 rfl ?_
  refine kv_iconst (v := 3) dd_Law_law_663 (by decide) ?_
  refine kv_iadd dd_Law_law_664 ?_
  refine kv_sld j3 dd_Law_law_665 hi3.1 hi3.2.1 hi3.2.2 ?_
  exact kv_callV [.int (B.2.2.2 j1), .int (B.2.2.2 j2), .int (B.2.2.2 j3)] [.int t0] ls_Law_75 hO4 hM dd_Law_law_666 rfl hdp (Nat.le_of_ble_eq_true rfl) hkk hkl (fun v n' S' I' hv => kv_loc [0, 1, 2, 3] rfl (K v n' S' I' hv))
theorem bl_Law_law_669 {d : Nat} {B : kv_B} {Q : kv_Q} {kc ks n : Nat} {S : kv_SM} {I : kv_IM} {a1 : Nat} {a2 : Nat} {v3 : Int32} {t0 : Int32} {t1 : Int32} (Kt : t1 = t0 → kv_V y_Law_law d B Q kc ks n S I 842 [(0, .ref B.2.1), (1, .ref a1), (2, .ref a2), (3, .int v3)] []) (Kf : ¬ t1 = t0 → kv_V y_Law_law d B Q kc ks n S I 672 [(0, .ref B.2.1), (1, .ref a1), (2, .ref a2), (3, .int v3)] []) : kv_V y_Law_law d B Q kc ks n S I 669 [(0, .ref B.2.1), (1, .ref a1), (2, .ref a2), (3, .int v3)] [.int t0, .int t1] := by
  exact kv_icmp_eq 842 dd_Law_law_669 (by decide) (fun h => kv_loc [0, 1, 2, 3] rfl (Kt h)) (fun h => kv_loc [0, 1, 2, 3] rfl (Kf h))
theorem bl_Law_law_672 {d : Nat} {B : kv_B} {Q : kv_Q} {kc ks n : Nat} {S : kv_SM} {I : kv_IM} {a1 : Nat} {a2 : Nat} {v3 : Int32} (hQ : Q (some (.int 0)) n S I) : kv_V y_Law_law d B Q kc ks n S I 672 [(0, .ref B.2.1), (1, .ref a1), (2, .ref a2), (3, .int v3)] [] := by
  refine kv_iconst (v := 0) dd_Law_law_672 (by decide) ?_
  exact kv_end (v := some (.int 0)) hQ ⟨dd_Law_law_673, .boolean, rfl, rfl⟩
theorem bl_Law_law_674 {d : Nat} {B : kv_B} {Q : kv_Q} {kc ks n : Nat} {S : kv_SM} {I : kv_IM} {a1 : Nat} {a2 : Nat} {v3 : Int32} {j1 : Nat} {dc kcc ksc : Nat} {Qy : kv_Q} {r2 : Nat → Option Nat} (hi1 : v3 + 1 = nI j1 ∧ j1 < B.2.2.1 ∧ B.2.2.1 < 2 ^ 31) (hO2 : S a1 = kO 5 r2) (hM : kv_T y_Cb_keep dc kcc ksc B [.ref a1, .int (B.2.2.2 j1)] n S I Qy) (hdp : dc + 1 ≤ d) (hkk : kcc ≤ kc) (hkl : ksc ≤ ks) (K : ∀ v n' S' I', Qy v n' S' I' → kv_V y_Law_law d B Q (kc - kcc) (ks - ksc) n' S' I' 683 [(0, .ref B.2.1), (1, .ref a1), (2, .ref a2), (3, .int v3)] (v.toList ++ [])) : kv_V y_Law_law d B Q kc ks n S I 674 [(0, .ref B.2.1), (1, .ref a1), (2, .ref a2), (3, .int v3)] [] := by
  refine kv_aload_n dd_Law_law_674 rfl ?_
  refine kv_aload_n dd_Law_law_675 rfl ?_
  refine kv_iload_n dd_Law_law_676 rfl ?_
  refine kv_iconst (v := 1) dd_Law_law_677 (by decide) ?_
  refine kv_iadd dd_Law_law_678 ?_
  refine kv_sld j1 dd_Law_law_679 hi1.1 hi1.2.1 hi1.2.2 ?_
  exact kv_callV [.int (B.2.2.2 j1)] [] ls_Law_76 hO2 hM dd_Law_law_680 rfl hdp (Nat.le_of_ble_eq_true rfl) hkk hkl (fun v n' S' I' hv => kv_loc [0, 1, 2, 3] rfl (K v n' S' I' hv))
theorem bl_Law_law_683 {d : Nat} {B : kv_B} {Q : kv_Q} {kc ks n : Nat} {S : kv_SM} {I : kv_IM} {a1 : Nat} {a2 : Nat} {v3 : Int32} {t0 : Int32} {j1 : Nat} {dc kcc ksc : Nat} {Qy : kv_Q} {r2 : Nat → Option Nat} (hi1 : v3 + 1 = nI j1 ∧ j1 < B.2.2.1 ∧ B.2.2.1 < 2 ^ 31) (hO2 : S a2 = kO 6 r2) (hM : kv_T y_Md_keep dc kcc ksc B [.ref a2, .int (B.2.2.2 j1)] n S I Qy) (hdp : dc + 1 ≤ d) (hkk : kcc ≤ kc) (hkl : ksc ≤ ks) (K : ∀ v n' S' I', Qy v n' S' I' → kv_V y_Law_law d B Q (kc - kcc) (ks - ksc) n' S' I' 692 [(0, .ref B.2.1), (1, .ref a1), (2, .ref a2), (3, .int v3)] (v.toList ++ [.int t0])) : kv_V y_Law_law d B Q kc ks n S I 683 [(0, .ref B.2.1), (1, .ref a1), (2, .ref a2), (3, .int v3)] [.int t0] := by
  refine kv_aload_n dd_Law_law_683 rfl ?_
  refine kv_aload_n dd_Law_law_684 rfl ?_
  refine kv_iload_n dd_Law_law_685 rfl ?_
  refine kv_iconst (v := 1) dd_Law_law_686 (by decide) ?_
  refine kv_iadd dd_Law_law_687 ?_
  refine kv_sld j1 dd_Law_law_688 hi1.1 hi1.2.1 hi1.2.2 ?_
  exact kv_callV [.int (B.2.2.2 j1)] [.int t0] ls_Law_79 hO2 hM dd_Law_law_689 rfl hdp (Nat.le_of_ble_eq_true rfl) hkk hkl (fun v n' S' I' hv => kv_loc [0, 1, 2, 3] rfl (K v n' S' I' hv))
theorem bl_Law_law_692 {d : Nat} {B : kv_B} {Q : kv_Q} {kc ks n : Nat} {S : kv_SM} {I : kv_IM} {a1 : Nat} {a2 : Nat} {v3 : Int32} {t0 : Int32} {t1 : Int32} (Kt : t1 = t0 → kv_V y_Law_law d B Q kc ks n S I 842 [(0, .ref B.2.1), (1, .ref a1), (2, .ref a2), (3, .int v3)] []) (Kf : ¬ t1 = t0 → kv_V y_Law_law d B Q kc ks n S I 695 [(0, .ref B.2.1), (1, .ref a1), (2, .ref a2), (3, .int v3)] []) : kv_V y_Law_law d B Q kc ks n S I 692 [(0, .ref B.2.1), (1, .ref a1), (2, .ref a2), (3, .int v3)] [.int t0, .int t1] := by
  exact kv_icmp_eq 842 dd_Law_law_692 (by decide) (fun h => kv_loc [0, 1, 2, 3] rfl (Kt h)) (fun h => kv_loc [0, 1, 2, 3] rfl (Kf h))
theorem bl_Law_law_695 {d : Nat} {B : kv_B} {Q : kv_Q} {kc ks n : Nat} {S : kv_SM} {I : kv_IM} {a1 : Nat} {a2 : Nat} {v3 : Int32} (hQ : Q (some (.int 0)) n S I) : kv_V y_Law_law d B Q kc ks n S I 695 [(0, .ref B.2.1), (1, .ref a1), (2, .ref a2), (3, .int v3)] [] := by
  refine kv_iconst (v := 0) dd_Law_law_695 (by decide) ?_
  exact kv_end (v := some (.int 0)) hQ ⟨dd_Law_law_696, .boolean, rfl, rfl⟩
theorem bl_Law_law_697 {d : Nat} {B : kv_B} {Q : kv_Q} {kc ks n : Nat} {S : kv_SM} {I : kv_IM} {a1 : Nat} {a2 : Nat} {v3 : Int32} {j1 : Nat} {dc kcc ksc : Nat} {Qy : kv_Q} {r2 : Nat → Option Nat} (hi1 : v3 + 1 = nI j1 ∧ j1 < B.2.2.1 ∧ B.2.2.1 < 2 ^ 31) (hO2 : S a1 = kO 5 r2) (hM : kv_T y_Cb_drop dc kcc ksc B [.ref a1, .int (B.2.2.2 j1)] n S I Qy) (hdp : dc + 1 ≤ d) (hkk : kcc ≤ kc) (hkl : ksc ≤ ks) (K : ∀ v n' S' I', Qy v n' S' I' → kv_V y_Law_law d B Q (kc - kcc) (ks - ksc) n' S' I' 706 [(0, .ref B.2.1), (1, .ref a1), (2, .ref a2), (3, .int v3)] (v.toList ++ [])) : kv_V y_Law_law d B Q kc ks n S I 697 [(0, .ref B.2.1), (1, .ref a1), (2, .ref a2), (3, .int v3)] [] := by
  refine kv_aload_n dd_Law_law_697 rfl ?_
  refine kv_aload_n dd_Law_law_698 rfl ?_
  refine kv_iload_n dd_Law_law_699 rfl ?_
  refine kv_iconst (v := 1) dd_Law_law_700 (by decide) ?_
  refine kv_iadd dd_Law_law_701 ?_
  refine kv_sld j1 dd_Law_law_702 hi1.1 hi1.2.1 hi1.2.2 ?_
  exact kv_callV [.int (B.2.2.2 j1)] [] ls_Law_80 hO2 hM dd_Law_law_703 rfl hdp (Nat.le_of_ble_eq_true rfl) hkk hkl (fun v n' S' I' hv => kv_loc [0, 1, 2, 3] rfl (K v n' S' I' hv))
theorem bl_Law_law_706 {d : Nat} {B : kv_B} {Q : kv_Q} {kc ks n : Nat} {S : kv_SM} {I : kv_IM} {a1 : Nat} {a2 : Nat} {v3 : Int32} {t0 : Int32} {j1 : Nat} {dc kcc ksc : Nat} {Qy : kv_Q} {r2 : Nat → Option Nat} (hi1 : v3 + 1 = nI j1 ∧ j1 < B.2.2.1 ∧ B.2.2.1 < 2 ^ 31) (hO2 : S a2 = kO 6 r2) (hM : kv_T y_Md_drop dc kcc ksc B [.ref a2, .int (B.2.2.2 j1)] n S I Qy) (hdp : dc + 1 ≤ d) (hkk : kcc ≤ kc) (hkl : ksc ≤ ks) (K : ∀ v n' S' I', Qy v n' S' I' → kv_V y_Law_law d B Q (kc - kcc) (ks - ksc) n' S' I' 715 [(0, .ref B.2.1), (1, .ref a1), (2, .ref a2), (3, .int v3)] (v.toList ++ [.int t0])) : kv_V y_Law_law d B Q kc ks n S I 706 [(0, .ref B.2.1), (1, .ref a1), (2, .ref a2), (3, .int v3)] [.int t0] := by
  refine kv_aload_n dd_Law_law_706 rfl ?_
  refine kv_aload_n dd_Law_law_707 rfl ?_
  refine kv_iload_n dd_Law_law_708 rfl ?_
  refine kv_iconst (v := 1) dd_Law_law_709 (by decide) ?_
  refine kv_iadd dd_Law_law_710 ?_
  refine kv_sld j1 dd_Law_law_711 hi1.1 hi1.2.1 hi1.2.2 ?_
  exact kv_callV [.int (B.2.2.2 j1)] [.int t0] ls_Law_83 hO2 hM dd_Law_law_712 rfl hdp (Nat.le_of_ble_eq_true rfl) hkk hkl (fun v n' S' I' hv => kv_loc [0, 1, 2, 3] rfl (K v n' S' I' hv))
theorem bl_Law_law_715 {d : Nat} {B : kv_B} {Q : kv_Q} {kc ks n : Nat} {S : kv_SM} {I : kv_IM} {a1 : Nat} {a2 : Nat} {v3 : Int32} {t0 : Int32} {t1 : Int32} (Kt : t1 = t0 → kv_V y_Law_law d B Q kc ks n S I 842 [(0, .ref B.2.1), (1, .ref a1), (2, .ref a2), (3, .int v3)] []) (Kf : ¬ t1 = t0 → kv_V y_Law_law d B Q kc ks n S I 718 [(0, .ref B.2.1), (1, .ref a1), (2, .ref a2), (3, .int v3)] []) : kv_V y_Law_law d B Q kc ks n S I 715 [(0, .ref B.2.1), (1, .ref a1), (2, .ref a2), (3, .int v3)] [.int t0, .int t1] := by
  exact kv_icmp_eq 842 dd_Law_law_715 (by decide) (fun h => kv_loc [0, 1, 2, 3] rfl (Kt h)) (fun h => kv_loc [0, 1, 2, 3] rfl (Kf h))
theorem bl_Law_law_718 {d : Nat} {B : kv_B} {Q : kv_Q} {kc ks n : Nat} {S : kv_SM} {I : kv_IM} {a1 : Nat} {a2 : Nat} {v3 : Int32} (hQ : Q (some (.int 0)) n S I) : kv_V y_Law_law d B Q kc ks n S I 718 [(0, .ref B.2.1), (1, .ref a1), (2, .ref a2), (3, .int v3)] [] := by
  refine kv_iconst (v := 0) dd_Law_law_718 (by decide) ?_
  exact kv_end (v := some (.int 0)) hQ ⟨dd_Law_law_719, .boolean, rfl, rfl⟩
theorem bl_Law_law_720 {d : Nat} {B : kv_B} {Q : kv_Q} {kc ks n : Nat} {S : kv_SM} {I : kv_IM} {a1 : Nat} {a2 : Nat} {v3 : Int32} {j1 : Nat} {j2 : Nat} {dc kcc ksc : Nat} {Qy : kv_Q} {r3 : Nat → Option Nat} (hi1 : v3 + 1 = nI j1 ∧ j1 < B.2.2.1 ∧ B.2.2.1 < 2 ^ 31) (hi2 : v3 + 2 = nI j2 ∧ j2 < B.2.2.1 ∧ B.2.2.1 < 2 ^ 31) (hO3 : S a1 = kO 5 r3) (hM : kv_T y_Cb_restore dc kcc ksc B [.ref a1, .int (B.2.2.2 j1), .int (B.2.2.2 j2)] n S I Qy) (hdp : dc + 1 ≤ d) (hkk : kcc ≤ kc) (hkl : ksc ≤ ks) (K : ∀ v n' S' I', Qy v n' S' I' → kv_V y_Law_law d B Q (kc - kcc) (ks - ksc) n' S' I' 734 [(0, .ref B.2.1), (1, .ref a1), (2, .ref a2), (3, .int v3)] (v.toList ++ [])) : kv_V y_Law_law d B Q kc ks n S I 720 [(0, .ref B.2.1), (1, .ref a1), (2, .ref a2), (3, .int v3)] [] := by
  refine kv_aload_n dd_Law_law_720 rfl ?_
  refine kv_aload_n dd_Law_law_721 rfl ?_
  refine kv_iload_n dd_Law_law_722 rfl ?_
  refine kv_iconst (v := 1) dd_Law_law_723 (by decide) ?_
  refine kv_iadd dd_Law_law_724 ?_
  refine kv_sld j1 dd_Law_law_725 hi1.1 hi1.2.1 hi1.2.2 ?_
  refine kv_aload_n dd_Law_law_726 rfl ?_
  refine kv_iload_n dd_Law_law_727 rfl ?_
  refine kv_iconst (v := 2) dd_Law_law_728 (by decide) ?_
  refine kv_iadd dd_Law_law_729 ?_
  refine kv_sld j2 dd_Law_law_730 hi2.1 hi2.2.1 hi2.2.2 ?_
  exact kv_callV [.int (B.2.2.2 j1), .int (B.2.2.2 j2)] [] ls_Law_84 hO3 hM dd_Law_law_731 rfl hdp (Nat.le_of_ble_eq_true rfl) hkk hkl (fun v n' S' I' hv => kv_loc [0, 1, 2, 3] rfl (K v n' S' I' hv))
theorem bl_Law_law_734 {d : Nat} {B : kv_B} {Q : kv_Q} {kc ks n : Nat} {S : kv_SM} {I : kv_IM} {a1 : Nat} {a2 : Nat} {v3 : Int32} {t0 : Int32} {j1 : Nat} {j2 : Nat} {dc kcc ksc : Nat} {Qy : kv_Q} {r3 : Nat → Option Nat} (hi1 : v3 + 1 = nI j1 ∧ j1 < B.2.2.1 ∧ B.2.2.1 < 2 ^ 31) (hi2 : v3 + 2 = nI j2 ∧ j2 < B.2.2.1 ∧ B.2.2.1 < 2 ^ 31) (hO3 : S a2 = kO 6 r3) (hM : kv_T y_Md_restore dc kcc ksc B [.ref a2, .int (B.2.2.2 j1), .int (B.2.2.2 j2)] n S I Qy) (hdp : dc + 1 ≤ d) (hkk : kcc ≤ kc) (hkl : ksc ≤ ks) (K : ∀ v n' S' I', Qy v n' S' I' → kv_V y_Law_law d B Q (kc - kcc) (ks - ksc) n' S' I' 748 [(0, .ref B.2.1), (1, .ref a1), (2, .ref a2), (3, .int v3)] (v.toList ++ [.int t0])) : kv_V y_Law_law d B Q kc ks n S I 734 [(0, .ref B.2.1), (1, .ref a1), (2, .ref a2), (3, .int v3)] [.int t0] := by
  refine kv_aload_n dd_Law_law_734 rfl ?_
  refine kv_aload_n dd_Law_law_735 rfl ?_
  refine kv_iload_n dd_Law_law_736 rfl ?_
  refine kv_iconst (v := 1) dd_Law_law_737 (by decide) ?_
  refine kv_iadd dd_Law_law_738 ?_
  refine kv_sld j1 dd_Law_law_739 hi1.1 hi1.2.1 hi1.2.2 ?_
  refine kv_aload_n dd_Law_law_740 rfl ?_
  refine kv_iload_n dd_Law_law_741 rfl ?_
  refine kv_iconst (v := 2) dd_Law_law_742 (by decide) ?_
  refine kv_iadd dd_Law_law_743 ?_
  refine kv_sld j2 dd_Law_law_744 hi2.1 hi2.2.1 hi2.2.2 ?_
  exact kv_callV [.int (B.2.2.2 j1), .int (B.2.2.2 j2)] [.int t0] ls_Law_87 hO3 hM dd_Law_law_745 rfl hdp (Nat.le_of_ble_eq_true rfl) hkk hkl (fun v n' S' I' hv => kv_loc [0, 1, 2, 3] rfl (K v n' S' I' hv))
theorem bl_Law_law_748 {d : Nat} {B : kv_B} {Q : kv_Q} {kc ks n : Nat} {S : kv_SM} {I : kv_IM} {a1 : Nat} {a2 : Nat} {v3 : Int32} {t0 : Int32} {t1 : Int32} (Kt : t1 = t0 → kv_V y_Law_law d B Q kc ks n S I 842 [(0, .ref B.2.1), (1, .ref a1), (2, .ref a2), (3, .int v3)] []) (Kf : ¬ t1 = t0 → kv_V y_Law_law d B Q kc ks n S I 751 [(0, .ref B.2.1), (1, .ref a1), (2, .ref a2), (3, .int v3)] []) : kv_V y_Law_law d B Q kc ks n S I 748 [(0, .ref B.2.1), (1, .ref a1), (2, .ref a2), (3, .int v3)] [.int t0, .int t1] := by
  exact kv_icmp_eq 842 dd_Law_law_748 (by decide) (fun h => kv_loc [0, 1, 2, 3] rfl (Kt h)) (fun h => kv_loc [0, 1, 2, 3] rfl (Kf h))
theorem bl_Law_law_751 {d : Nat} {B : kv_B} {Q : kv_Q} {kc ks n : Nat} {S : kv_SM} {I : kv_IM} {a1 : Nat} {a2 : Nat} {v3 : Int32} (hQ : Q (some (.int 0)) n S I) : kv_V y_Law_law d B Q kc ks n S I 751 [(0, .ref B.2.1), (1, .ref a1), (2, .ref a2), (3, .int v3)] [] := by
  refine kv_iconst (v := 0) dd_Law_law_751 (by decide) ?_
  exact kv_end (v := some (.int 0)) hQ ⟨dd_Law_law_752, .boolean, rfl, rfl⟩
theorem bl_Law_law_753 {d : Nat} {B : kv_B} {Q : kv_Q} {kc ks n : Nat} {S : kv_SM} {I : kv_IM} {a1 : Nat} {a2 : Nat} {v3 : Int32} {j1 : Nat} {j2 : Nat} {dc kcc ksc : Nat} {Qy : kv_Q} {r3 : Nat → Option Nat} (hi1 : v3 + 1 = nI j1 ∧ j1 < B.2.2.1 ∧ B.2.2.1 < 2 ^ 31) (hi2 : v3 + 2 = nI j2 ∧ j2 < B.2.2.1 ∧ B.2.2.1 < 2 ^ 31) (hO3 : S a1 = kO 5 r3) (hM : kv_T y_Cb_told dc kcc ksc B [.ref a1, .int (B.2.2.2 j1), .int (B.2.2.2 j2)] n S I Qy) (hdp : dc + 1 ≤ d) (hkk : kcc ≤ kc) (hkl : ksc ≤ ks) (K : ∀ v n' S' I', Qy v n' S' I' → kv_V y_Law_law d B Q (kc - kcc) (ks - ksc) n' S' I' 767 [(0, .ref B.2.1), (1, .ref a1), (2, .ref a2), (3, .int v3)] (v.toList ++ [])) : kv_V y_Law_law d B Q kc ks n S I 753 [(0, .ref B.2.1), (1, .ref a1), (2, .ref a2), (3, .int v3)] [] := by
  refine kv_aload_n dd_Law_law_753 rfl ?_
  refine kv_aload_n dd_Law_law_754 rfl ?_
  refine kv_iload_n dd_Law_law_755 rfl ?_
  refine kv_iconst (v := 1) dd_Law_law_756 (by decide) ?_
  refine kv_iadd dd_Law_law_757 ?_
  refine kv_sld j1 dd_Law_law_758 hi1.1 hi1.2.1 hi1.2.2 ?_
  refine kv_aload_n dd_Law_law_759 rfl ?_
  refine kv_iload_n dd_Law_law_760 rfl ?_
  refine kv_iconst (v := 2) dd_Law_law_761 (by decide) ?_
  refine kv_iadd dd_Law_law_762 ?_
  refine kv_sld j2 dd_Law_law_763 hi2.1 hi2.2.1 hi2.2.2 ?_
  exact kv_callV [.int (B.2.2.2 j1), .int (B.2.2.2 j2)] [] ls_Law_88 hO3 hM dd_Law_law_764 rfl hdp (Nat.le_of_ble_eq_true rfl) hkk hkl (fun v n' S' I' hv => kv_loc [0, 1, 2, 3] rfl (K v n' S' I' hv))
theorem bl_Law_law_767 {d : Nat} {B : kv_B} {Q : kv_Q} {kc ks n : Nat} {S : kv_SM} {I : kv_IM} {a1 : Nat} {a2 : Nat} {v3 : Int32} {t0 : Int32} {j1 : Nat} {j2 : Nat} {dc kcc ksc : Nat} {Qy : kv_Q} {r3 : Nat → Option Nat} (hi1 : v3 + 1 = nI j1 ∧ j1 < B.2.2.1 ∧ B.2.2.1 < 2 ^ 31) (hi2 : v3 + 2 = nI j2 ∧ j2 < B.2.2.1 ∧ B.2.2.1 < 2 ^ 31) (hO3 : S a2 = kO 6 r3) (hM : kv_T y_Md_told dc kcc ksc B [.ref a2, .int (B.2.2.2 j1), .int (B.2.2.2 j2)] n S I Qy) (hdp : dc + 1 ≤ d) (hkk : kcc ≤ kc) (hkl : ksc ≤ ks) (K : ∀ v n' S' I', Qy v n' S' I' → kv_V y_Law_law d B Q (kc - kcc) (ks - ksc) n' S' I' 781 [(0, .ref B.2.1), (1, .ref a1), (2, .ref a2), (3, .int v3)] (v.toList ++ [.int t0])) : kv_V y_Law_law d B Q kc ks n S I 767 [(0, .ref B.2.1), (1, .ref a1), (2, .ref a2), (3, .int v3)] [.int t0] := by
  refine kv_aload_n dd_Law_law_767 rfl ?_
  refine kv_aload_n dd_Law_law_768 rfl ?_
  refine kv_iload_n dd_Law_law_769 rfl ?_
  refine kv_iconst (v := 1) dd_Law_law_770 (by decide) ?_
  refine kv_iadd dd_Law_law_771 ?_
  refine kv_sld j1 dd_Law_law_772 hi1.1 hi1.2.1 hi1.2.2 ?_
  refine kv_aload_n dd_Law_law_773 rfl ?_
  refine kv_iload_n dd_Law_law_774 rfl ?_
  refine kv_iconst (v := 2) dd_Law_law_775 (by decide) ?_
  refine kv_iadd dd_Law_law_776 ?_
  refine kv_sld j2 dd_Law_law_777 hi2.1 hi2.2.1 hi2.2.2 ?_
  exact kv_callV [.int (B.2.2.2 j1), .int (B.2.2.2 j2)] [.int t0] ls_Law_91 hO3 hM dd_Law_law_778 rfl hdp (Nat.le_of_ble_eq_true rfl) hkk hkl (fun v n' S' I' hv => kv_loc [0, 1, 2, 3] rfl (K v n' S' I' hv))
theorem bl_Law_law_781 {d : Nat} {B : kv_B} {Q : kv_Q} {kc ks n : Nat} {S : kv_SM} {I : kv_IM} {a1 : Nat} {a2 : Nat} {v3 : Int32} {t0 : Int32} {t1 : Int32} (Kt : t1 = t0 → kv_V y_Law_law d B Q kc ks n S I 842 [(0, .ref B.2.1), (1, .ref a1), (2, .ref a2), (3, .int v3)] []) (Kf : ¬ t1 = t0 → kv_V y_Law_law d B Q kc ks n S I 784 [(0, .ref B.2.1), (1, .ref a1), (2, .ref a2), (3, .int v3)] []) : kv_V y_Law_law d B Q kc ks n S I 781 [(0, .ref B.2.1), (1, .ref a1), (2, .ref a2), (3, .int v3)] [.int t0, .int t1] := by
  exact kv_icmp_eq 842 dd_Law_law_781 (by decide) (fun h => kv_loc [0, 1, 2, 3] rfl (Kt h)) (fun h => kv_loc [0, 1, 2, 3] rfl (Kf h))
theorem bl_Law_law_784 {d : Nat} {B : kv_B} {Q : kv_Q} {kc ks n : Nat} {S : kv_SM} {I : kv_IM} {a1 : Nat} {a2 : Nat} {v3 : Int32} (hQ : Q (some (.int 0)) n S I) : kv_V y_Law_law d B Q kc ks n S I 784 [(0, .ref B.2.1), (1, .ref a1), (2, .ref a2), (3, .int v3)] [] := by
  refine kv_iconst (v := 0) dd_Law_law_784 (by decide) ?_
  exact kv_end (v := some (.int 0)) hQ ⟨dd_Law_law_785, .boolean, rfl, rfl⟩
theorem bl_Law_law_786 {d : Nat} {B : kv_B} {Q : kv_Q} {kc ks n : Nat} {S : kv_SM} {I : kv_IM} {a1 : Nat} {a2 : Nat} {v3 : Int32} {j1 : Nat} {j2 : Nat} {dc kcc ksc : Nat} {Qy : kv_Q} {r3 : Nat → Option Nat} (hi1 : v3 + 1 = nI j1 ∧ j1 < B.2.2.1 ∧ B.2.2.1 < 2 ^ 31) (hi2 : v3 + 2 = nI j2 ∧ j2 < B.2.2.1 ∧ B.2.2.1 < 2 ^ 31) (hO3 : S a1 = kO 5 r3) (hM : kv_T y_Cb_uses dc kcc ksc B [.ref a1, .int (B.2.2.2 j1), .int (B.2.2.2 j2)] n S I Qy) (hdp : dc + 1 ≤ d) (hkk : kcc ≤ kc) (hkl : ksc ≤ ks) (K : ∀ v n' S' I', Qy v n' S' I' → kv_V y_Law_law d B Q (kc - kcc) (ks - ksc) n' S' I' 800 [(0, .ref B.2.1), (1, .ref a1), (2, .ref a2), (3, .int v3)] (v.toList ++ [])) : kv_V y_Law_law d B Q kc ks n S I 786 [(0, .ref B.2.1), (1, .ref a1), (2, .ref a2), (3, .int v3)] [] := by
  refine kv_aload_n dd_Law_law_786 rfl ?_
  refine kv_aload_n dd_Law_law_787 rfl ?_
  refine kv_iload_n dd_Law_law_788 rfl ?_
  refine kv_iconst (v := 1) dd_Law_law_789 (by decide) ?_
  refine kv_iadd dd_Law_law_790 ?_
  refine kv_sld j1 dd_Law_law_791 hi1.1 hi1.2.1 hi1.2.2 ?_
  refine kv_aload_n dd_Law_law_792 rfl ?_
  refine kv_iload_n dd_Law_law_793 rfl ?_
  refine kv_iconst (v := 2) dd_Law_law_794 (by decide) ?_
  refine kv_iadd dd_Law_law_795 ?_
  refine kv_sld j2 dd_Law_law_796 hi2.1 hi2.2.1 hi2.2.2 ?_
  exact kv_callV [.int (B.2.2.2 j1), .int (B.2.2.2 j2)] [] ls_Law_92 hO3 hM dd_Law_law_797 rfl hdp (Nat.le_of_ble_eq_true rfl) hkk hkl (fun v n' S' I' hv => kv_loc [0, 1, 2, 3] rfl (K v n' S' I' hv))
theorem bl_Law_law_800 {d : Nat} {B : kv_B} {Q : kv_Q} {kc ks n : Nat} {S : kv_SM} {I : kv_IM} {a1 : Nat} {a2 : Nat} {v3 : Int32} {t0 : Int32} {j1 : Nat} {j2 : Nat} {dc kcc ksc : Nat} {Qy : kv_Q} {r3 : Nat → Option Nat} (hi1 : v3 + 1 = nI j1 ∧ j1 < B.2.2.1 ∧ B.2.2.1 < 2 ^ 31) (hi2 : v3 + 2 = nI j2 ∧ j2 < B.2.2.1 ∧ B.2.2.1 < 2 ^ 31) (hO3 : S a2 = kO 6 r3) (hM : kv_T y_Md_uses dc kcc ksc B [.ref a2, .int (B.2.2.2 j1), .int (B.2.2.2 j2)] n S I Qy) (hdp : dc + 1 ≤ d) (hkk : kcc ≤ kc) (hkl : ksc ≤ ks) (K : ∀ v n' S' I', Qy v n' S' I' → kv_V y_Law_law d B Q (kc - kcc) (ks - ksc) n' S' I' 814 [(0, .ref B.2.1), (1, .ref a1), (2, .ref a2), (3, .int v3)] (v.toList ++ [.int t0])) : kv_V y_Law_law d B Q kc ks n S I 800 [(0, .ref B.2.1), (1, .ref a1), (2, .ref a2), (3, .int v3)] [.int t0] := by
  refine kv_aload_n dd_Law_law_800 rfl ?_
  refine kv_aload_n dd_Law_law_801 rfl ?_
  refine kv_iload_n dd_Law_law_802 rfl ?_
  refine kv_iconst (v := 1) dd_Law_law_803 (by decide) ?_
  refine kv_iadd dd_Law_law_804 ?_
  refine kv_sld j1 dd_Law_law_805 hi1.1 hi1.2.1 hi1.2.2 ?_
  refine kv_aload_n dd_Law_law_806 rfl ?_
  refine kv_iload_n dd_Law_law_807 rfl ?_
  refine kv_iconst (v := 2) dd_Law_law_808 (by decide) ?_
  refine kv_iadd dd_Law_law_809 ?_
  refine kv_sld j2 dd_Law_law_810 hi2.1 hi2.2.1 hi2.2.2 ?_
  exact kv_callV [.int (B.2.2.2 j1), .int (B.2.2.2 j2)] [.int t0] ls_Law_95 hO3 hM dd_Law_law_811 rfl hdp (Nat.le_of_ble_eq_true rfl) hkk hkl (fun v n' S' I' hv => kv_loc [0, 1, 2, 3] rfl (K v n' S' I' hv))
theorem bl_Law_law_814 {d : Nat} {B : kv_B} {Q : kv_Q} {kc ks n : Nat} {S : kv_SM} {I : kv_IM} {a1 : Nat} {a2 : Nat} {v3 : Int32} {t0 : Int32} {t1 : Int32} (Kt : t1 = t0 → kv_V y_Law_law d B Q kc ks n S I 842 [(0, .ref B.2.1), (1, .ref a1), (2, .ref a2), (3, .int v3)] []) (Kf : ¬ t1 = t0 → kv_V y_Law_law d B Q kc ks n S I 817 [(0, .ref B.2.1), (1, .ref a1), (2, .ref a2), (3, .int v3)] []) : kv_V y_Law_law d B Q kc ks n S I 814 [(0, .ref B.2.1), (1, .ref a1), (2, .ref a2), (3, .int v3)] [.int t0, .int t1] := by
  exact kv_icmp_eq 842 dd_Law_law_814 (by decide) (fun h => kv_loc [0, 1, 2, 3] rfl (Kt h)) (fun h => kv_loc [0, 1, 2, 3] rfl (Kf h))
theorem bl_Law_law_817 {d : Nat} {B : kv_B} {Q : kv_Q} {kc ks n : Nat} {S : kv_SM} {I : kv_IM} {a1 : Nat} {a2 : Nat} {v3 : Int32} (hQ : Q (some (.int 0)) n S I) : kv_V y_Law_law d B Q kc ks n S I 817 [(0, .ref B.2.1), (1, .ref a1), (2, .ref a2), (3, .int v3)] [] := by
  refine kv_iconst (v := 0) dd_Law_law_817 (by decide) ?_
  exact kv_end (v := some (.int 0)) hQ ⟨dd_Law_law_818, .boolean, rfl, rfl⟩
theorem bl_Law_law_819 {d : Nat} {B : kv_B} {Q : kv_Q} {kc ks n : Nat} {S : kv_SM} {I : kv_IM} {a1 : Nat} {a2 : Nat} {v3 : Int32} {j1 : Nat} {dc kcc ksc : Nat} {Qy : kv_Q} {r2 : Nat → Option Nat} (hi1 : v3 + 1 = nI j1 ∧ j1 < B.2.2.1 ∧ B.2.2.1 < 2 ^ 31) (hO2 : S a1 = kO 5 r2) (hM : kv_T y_Cb_kept dc kcc ksc B [.ref a1, .int (B.2.2.2 j1)] n S I Qy) (hdp : dc + 1 ≤ d) (hkk : kcc ≤ kc) (hkl : ksc ≤ ks) (K : ∀ v n' S' I', Qy v n' S' I' → kv_V y_Law_law d B Q (kc - kcc) (ks - ksc) n' S' I' 828 [(0, .ref B.2.1), (1, .ref a1), (2, .ref a2), (3, .int v3)] (v.toList ++ [])) : kv_V y_Law_law d B Q kc ks n S I 819 [(0, .ref B.2.1), (1, .ref a1), (2, .ref a2), (3, .int v3)] [] := by
  refine kv_aload_n dd_Law_law_819 rfl ?_
  refine kv_aload_n dd_Law_law_820 rfl ?_
  refine kv_iload_n dd_Law_law_821 rfl ?_
  refine kv_iconst (v := 1) dd_Law_law_822 (by decide) ?_
  refine kv_iadd dd_Law_law_823 ?_
  refine kv_sld j1 dd_Law_law_824 hi1.1 hi1.2.1 hi1.2.2 ?_
  exact kv_callV [.int (B.2.2.2 j1)] [] ls_Law_96 hO2 hM dd_Law_law_825 rfl hdp (Nat.le_of_ble_eq_true rfl) hkk hkl (fun v n' S' I' hv => kv_loc [0, 1, 2, 3] rfl (K v n' S' I' hv))
theorem bl_Law_law_828 {d : Nat} {B : kv_B} {Q : kv_Q} {kc ks n : Nat} {S : kv_SM} {I : kv_IM} {a1 : Nat} {a2 : Nat} {v3 : Int32} {t0 : Int32} {j1 : Nat} {dc kcc ksc : Nat} {Qy : kv_Q} {r2 : Nat → Option Nat} (hi1 : v3 + 1 = nI j1 ∧ j1 < B.2.2.1 ∧ B.2.2.1 < 2 ^ 31) (hO2 : S a2 = kO 6 r2) (hM : kv_T y_Md_kept dc kcc ksc B [.ref a2, .int (B.2.2.2 j1)] n S I Qy) (hdp : dc + 1 ≤ d) (hkk : kcc ≤ kc) (hkl : ksc ≤ ks) (K : ∀ v n' S' I', Qy v n' S' I' → kv_V y_Law_law d B Q (kc - kcc) (ks - ksc) n' S' I' 837 [(0, .ref B.2.1), (1, .ref a1), (2, .ref a2), (3, .int v3)] (v.toList ++ [.int t0])) : kv_V y_Law_law d B Q kc ks n S I 828 [(0, .ref B.2.1), (1, .ref a1), (2, .ref a2), (3, .int v3)] [.int t0] := by
  refine kv_aload_n dd_Law_law_828 rfl ?_
  refine kv_aload_n dd_Law_law_829 rfl ?_
  refine kv_iload_n dd_Law_law_830 rfl ?_
  refine kv_iconst (v := 1) dd_Law_law_831 (by decide) ?_
  refine kv_iadd dd_Law_law_832 ?_
  refine kv_sld j1 dd_Law_law_833 hi1.1 hi1.2.1 hi1.2.2 ?_
  exact kv_callV [.int (B.2.2.2 j1)] [.int t0] ls_Law_99 hO2 hM dd_Law_law_834 rfl hdp (Nat.le_of_ble_eq_true rfl) hkk hkl (fun v n' S' I' hv => kv_loc [0, 1, 2, 3] rfl (K v n' S' I' hv))
theorem bl_Law_law_837 {d : Nat} {B : kv_B} {Q : kv_Q} {kc ks n : Nat} {S : kv_SM} {I : kv_IM} {a1 : Nat} {a2 : Nat} {v3 : Int32} {t0 : Int32} {t1 : Int32} (Kt : t1 = t0 → kv_V y_Law_law d B Q kc ks n S I 842 [(0, .ref B.2.1), (1, .ref a1), (2, .ref a2), (3, .int v3)] []) (Kf : ¬ t1 = t0 → kv_V y_Law_law d B Q kc ks n S I 840 [(0, .ref B.2.1), (1, .ref a1), (2, .ref a2), (3, .int v3)] []) : kv_V y_Law_law d B Q kc ks n S I 837 [(0, .ref B.2.1), (1, .ref a1), (2, .ref a2), (3, .int v3)] [.int t0, .int t1] := by
  exact kv_icmp_eq 842 dd_Law_law_837 (by decide) (fun h => kv_loc [0, 1, 2, 3] rfl (Kt h)) (fun h => kv_loc [0, 1, 2, 3] rfl (Kf h))
theorem bl_Law_law_840 {d : Nat} {B : kv_B} {Q : kv_Q} {kc ks n : Nat} {S : kv_SM} {I : kv_IM} {a1 : Nat} {a2 : Nat} {v3 : Int32} (hQ : Q (some (.int 0)) n S I) : kv_V y_Law_law d B Q kc ks n S I 840 [(0, .ref B.2.1), (1, .ref a1), (2, .ref a2), (3, .int v3)] [] := by
  refine kv_iconst (v := 0) dd_Law_law_840 (by decide) ?_
  exact kv_end (v := some (.int 0)) hQ ⟨dd_Law_law_841, .boolean, rfl, rfl⟩
theorem bl_Law_law_842 {d : Nat} {B : kv_B} {Q : kv_Q} {kc ks n : Nat} {S : kv_SM} {I : kv_IM} {a1 : Nat} {a2 : Nat} {v3 : Int32} (K : kv_V y_Law_law d B Q kc ks n S I 18 [(0, .ref B.2.1), (1, .ref a1), (2, .ref a2), (3, .int (v3 + 7))] []) : kv_V y_Law_law d B Q kc ks n S I 842 [(0, .ref B.2.1), (1, .ref a1), (2, .ref a2), (3, .int v3)] [] := by
  refine kv_iinc (v := v3 + 7) (L' := [(3, .int (v3 + 7)), (0, .ref B.2.1), (1, .ref a1), (2, .ref a2)]) dd_Law_law_842 rfl rfl (by decide) rfl ?_
  refine kv_goto 18 dd_Law_law_845 (by decide) ?_
  exact kv_loc [1, 2, 3, 0] rfl K
theorem bl_Law_law_848 {d : Nat} {B : kv_B} {Q : kv_Q} {kc ks n : Nat} {S : kv_SM} {I : kv_IM} {a1 : Nat} {a2 : Nat} {v3 : Int32} (hQ : Q (some (.int 1)) n S I) : kv_V y_Law_law d B Q kc ks n S I 848 [(0, .ref B.2.1), (1, .ref a1), (2, .ref a2), (3, .int v3)] [] := by
  refine kv_iconst (v := 1) dd_Law_law_848 (by decide) ?_
  exact kv_end (v := some (.int 1)) hQ ⟨dd_Law_law_849, .boolean, rfl, rfl⟩
