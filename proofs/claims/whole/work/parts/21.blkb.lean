theorem bl_Cb_init_0 {d : Nat} {B : kv_B} {Q : kv_Q} {kc ks n : Nat} {S : kv_SM} {I : kv_IM} {a0 : Nat} {dc kcc ksc : Nat} {Qy : kv_Q} (hd1 : 1 ≤ d) (hk1 : 1 ≤ kc) (hs1 : 7 ≤ ks) (hM : kv_T y_Rul_init dc kcc ksc B [.ref (B.1 + n)] (n + 1) (kv_su S (B.1 + n) (kO 1 (fun _ => none))) (kv_iu I (B.1 + n) (fun _ => 0)) Qy) (hdp : dc + 1 ≤ d) (hkk : kcc ≤ kc - 1) (hkl : ksc ≤ ks - 7) (K : ∀ v n' S' I', Qy v n' S' I' → kv_V y_Cb_init d B Q (kc - 1 - kcc) (ks - 7 - ksc) n' S' I' 12 [(0, .ref a0)] (v.toList ++ [.ref (B.1 + n), .ref a0])) : kv_V y_Cb_init d B Q kc ks n S I 0 [(0, .ref a0)] [] := by
  refine kv_aload_n dd_Cb_init_0 rfl ?_
  refine kv_objInit wm_Cb_1 wo_in wo_code dd_Cb_init_1 hd1 (Nat.le_of_ble_eq_true rfl) ?_
  refine kv_aload_n dd_Cb_init_4 rfl ?_
  refine kv_new nw_Cb_7 dd_Cb_init_5 hk1 hs1 ?_
  refine kv_dup dd_Cb_init_8 rfl ?_
  exact kv_callI [] [.ref (B.1 + n), .ref a0] ls_Cb_9 hM dd_Cb_init_9 rfl hdp (Nat.le_of_ble_eq_true rfl) hkk hkl (fun v n' S' I' hv => kv_loc [0] rfl (K v n' S' I' hv))
theorem bl_Cb_init_12 {d : Nat} {B : kv_B} {Q : kv_Q} {kc ks n : Nat} {S : kv_SM} {I : kv_IM} {a0 : Nat} {t0 : Nat} {t1 : Nat} {r1 : Nat → Option Nat} {r3 : Nat → Option Nat} (hO1 : S t1 = kO 5 r1) (hk2 : 1 ≤ kc) (hs2 : 4 ≤ ks) (hO3 : (kv_su (kv_su S t1 (kO 5 (kv_ru r1 0 (some t0)))) (B.1 + n) (kA 4 4 (fun _ => none))) a0 = kO 5 r3) (K : kv_V y_Cb_init d B Q (kc - 1) (ks - 4) (n + 1) (kv_su (kv_su (kv_su S t1 (kO 5 (kv_ru r1 0 (some t0)))) (B.1 + n) (kA 4 4 (fun _ => none))) a0 (kO 5 (kv_ru r3 1 (some (B.1 + n))))) (kv_iu I (B.1 + n) (fun _ => 0)) 25 [(0, .ref a0), (1, .int 0)] []) : kv_V y_Cb_init d B Q kc ks n S I 12 [(0, .ref a0)] [.ref t0, .ref t1] := by
  refine kv_putR fp_Cb_10 (fun _ => rfl) dd_Cb_init_12 hO1 rfl rfl ?_
  refine kv_aload_n dd_Cb_init_15 rfl ?_
  refine kv_iconst (v := 4) dd_Cb_init_16 (by decide) ?_
  refine kv_newA (ci := 4) (t0 := 2) 4 (fun _ => rfl) (by decide) wn_Cb_16 dd_Cb_init_17 (by decide) (by decide) hk2 hs2 ?_
  refine kv_putR fp_Cb_18 (fun _ => rfl) dd_Cb_init_20 hO3 rfl rfl ?_
  refine kv_iconst (v := 0) dd_Cb_init_23 (by decide) ?_
  refine kv_istore_n (L' := [(1, .int 0), (0, .ref a0)]) dd_Cb_init_24 (by decide) rfl ?_
  exact kv_loc [1, 0] rfl K
theorem bl_Cb_init_25 {d : Nat} {B : kv_B} {Q : kv_Q} {kc ks n : Nat} {S : kv_SM} {I : kv_IM} {a0 : Nat} {v1 : Int32} (Kt : 4 ≤ v1 → kv_V y_Cb_init d B Q kc ks n S I 49 [(0, .ref a0), (1, .int v1)] []) (Kf : ¬ 4 ≤ v1 → kv_V y_Cb_init d B Q kc ks n S I 30 [(0, .ref a0), (1, .int v1)] []) : kv_V y_Cb_init d B Q kc ks n S I 25 [(0, .ref a0), (1, .int v1)] [] := by
  refine kv_iload_n dd_Cb_init_25 rfl ?_
  refine kv_iconst (v := 4) dd_Cb_init_26 (by decide) ?_
  exact kv_icmp_ge 49 dd_Cb_init_27 (by decide) (fun h => kv_loc [0, 1] rfl (Kt h)) (fun h => kv_loc [0, 1] rfl (Kf h))
theorem bl_Cb_init_30 {d : Nat} {B : kv_B} {Q : kv_Q} {kc ks n : Nat} {S : kv_SM} {I : kv_IM} {a0 : Nat} {v1 : Int32} {r1 : Nat → Option Nat} {q2 : Nat} {dc kcc ksc : Nat} {Qy : kv_Q} (hO1 : S a0 = kO 5 r1) (hr2 : r1 1 = some q2) (hk3 : 1 ≤ kc) (hs3 : 4 ≤ ks) (hM : kv_T y_Txt_init dc kcc ksc B [.ref (B.1 + n)] (n + 1) (kv_su S (B.1 + n) (kO 4 (fun _ => none))) (kv_iu I (B.1 + n) (fun _ => 0)) Qy) (hdp : dc + 1 ≤ d) (hkk : kcc ≤ kc - 1) (hkl : ksc ≤ ks - 4) (K : ∀ v n' S' I', Qy v n' S' I' → kv_V y_Cb_init d B Q (kc - 1 - kcc) (ks - 4 - ksc) n' S' I' 42 [(0, .ref a0), (1, .int v1)] (v.toList ++ [.ref (B.1 + n), .int v1, .ref q2])) : kv_V y_Cb_init d B Q kc ks n S I 30 [(0, .ref a0), (1, .int v1)] [] := by
  refine kv_aload_n dd_Cb_init_30 rfl ?_
  refine kv_getR fl_Cb_18 dd_Cb_init_31 hO1 hr2 ?_
  refine kv_iload_n dd_Cb_init_34 rfl ?_
  refine kv_new nw_Cb_16 dd_Cb_init_35 hk3 hs3 ?_
  refine kv_dup dd_Cb_init_38 rfl ?_
  exact kv_callI [] [.ref (B.1 + n), .int v1, .ref q2] ls_Cb_22 hM dd_Cb_init_39 rfl hdp (Nat.le_of_ble_eq_true rfl) hkk hkl (fun v n' S' I' hv => kv_loc [0, 1] rfl (K v n' S' I' hv))
theorem bl_Cb_init_42 {d : Nat} {B : kv_B} {Q : kv_Q} {kc ks n : Nat} {S : kv_SM} {I : kv_IM} {a0 : Nat} {v1 : Int32} {t0 : Nat} {t1 : Int32} {t2 : Nat} {r1 : Nat → Option Nat} {m2 : Nat} {r2 : Nat → Option Nat} {j3 : Nat} (hO1 : S t0 = kO 4 r1) (hA2 : S t2 = kA 4 m2 r2) (hi3 : t1 = nI j3 ∧ j3 < m2 ∧ m2 < 2 ^ 31) (K : kv_V y_Cb_init d B Q kc ks n (kv_su S t2 (kA 4 m2 (kv_ru r2 j3 (some t0)))) I 25 [(0, .ref a0), (1, .int (v1 + 1))] []) : kv_V y_Cb_init d B Q kc ks n S I 42 [(0, .ref a0), (1, .int v1)] [.ref t0, .int t1, .ref t2] := by
  refine kv_aast j3 (q := (cR4, cT4, 4)) dd_Cb_init_42 hA2 hO1 rfl ⟨2, fun _ => rfl⟩ hi3.1 hi3.2.1 hi3.2.2 ?_
  refine kv_iinc (v := v1 + 1) (L' := [(1, .int (v1 + 1)), (0, .ref a0)]) dd_Cb_init_43 rfl rfl (by decide) rfl ?_
  refine kv_goto 25 dd_Cb_init_46 (by decide) ?_
  exact kv_loc [1, 0] rfl K
theorem bl_Cb_init_49 {d : Nat} {B : kv_B} {Q : kv_Q} {kc ks n : Nat} {S : kv_SM} {I : kv_IM} {a0 : Nat} {v1 : Int32} {dc kcc ksc : Nat} {Qy : kv_Q} (hk1 : 1 ≤ kc) (hs1 : 4 ≤ ks) (hM : kv_T y_Sto_init dc kcc ksc B [.ref (B.1 + n)] (n + 1) (kv_su S (B.1 + n) (kO 3 (fun _ => none))) (kv_iu I (B.1 + n) (fun _ => 0)) Qy) (hdp : dc + 1 ≤ d) (hkk : kcc ≤ kc - 1) (hkl : ksc ≤ ks - 4) (K : ∀ v n' S' I', Qy v n' S' I' → kv_V y_Cb_init d B Q (kc - 1 - kcc) (ks - 4 - ksc) n' S' I' 57 [(0, .ref a0), (1, .int v1)] (v.toList ++ [.ref (B.1 + n), .ref a0])) : kv_V y_Cb_init d B Q kc ks n S I 49 [(0, .ref a0), (1, .int v1)] [] := by
  refine kv_aload_n dd_Cb_init_49 rfl ?_
  refine kv_new nw_Cb_23 dd_Cb_init_50 hk1 hs1 ?_
  refine kv_dup dd_Cb_init_53 rfl ?_
  exact kv_callI [] [.ref (B.1 + n), .ref a0] ls_Cb_25 hM dd_Cb_init_54 rfl hdp (Nat.le_of_ble_eq_true rfl) hkk hkl (fun v n' S' I' hv => kv_loc [0, 1] rfl (K v n' S' I' hv))
theorem bl_Cb_init_57 {d : Nat} {B : kv_B} {Q : kv_Q} {kc ks n : Nat} {S : kv_SM} {I : kv_IM} {a0 : Nat} {v1 : Int32} {t0 : Nat} {t1 : Nat} {r1 : Nat → Option Nat} (hO1 : S t1 = kO 5 r1) (hQ : Q (none) n (kv_su S t1 (kO 5 (kv_ru r1 2 (some t0)))) I) : kv_V y_Cb_init d B Q kc ks n S I 57 [(0, .ref a0), (1, .int v1)] [.ref t0, .ref t1] := by
  refine kv_putR fp_Cb_26 (fun _ => rfl) dd_Cb_init_57 hO1 rfl rfl ?_
  exact kv_end (v := none) hQ ⟨dd_Cb_init_60, rfl⟩
theorem bl_Cb_seed_0 {d : Nat} {B : kv_B} {Q : kv_Q} {kc ks n : Nat} {S : kv_SM} {I : kv_IM} {a0 : Nat} {v1 : Int32} {r1 : Nat → Option Nat} {q2 : Nat} {dc kcc ksc : Nat} {Qy : kv_Q} {r3 : Nat → Option Nat} (hO1 : S a0 = kO 5 r1) (hr2 : r1 0 = some q2) (hO3 : S q2 = kO 1 r3) (hM : kv_T y_Rul_sow dc kcc ksc B [.ref q2, .int v1] n S I Qy) (hdp : dc + 1 ≤ d) (hkk : kcc ≤ kc) (hkl : ksc ≤ ks) (K : ∀ v n' S' I', Qy v n' S' I' → kv_V y_Cb_seed d B Q (kc - kcc) (ks - ksc) n' S' I' 8 [(0, .ref a0), (1, .int v1)] (v.toList ++ [])) : kv_V y_Cb_seed d B Q kc ks n S I 0 [(0, .ref a0), (1, .int v1)] [] := by
  refine kv_aload_n dd_Cb_seed_0 rfl ?_
  refine kv_getR fl_Cb_10 dd_Cb_seed_1 hO1 hr2 ?_
  refine kv_iload_n dd_Cb_seed_4 rfl ?_
  exact kv_callV [.int v1] [] ls_Cb_30 hO3 hM dd_Cb_seed_5 rfl hdp (Nat.le_of_ble_eq_true rfl) hkk hkl (fun v n' S' I' hv => kv_loc [0, 1] rfl (K v n' S' I' hv))
theorem bl_Cb_seed_8 {d : Nat} {B : kv_B} {Q : kv_Q} {kc ks n : Nat} {S : kv_SM} {I : kv_IM} {a0 : Nat} {v1 : Int32} {dc kcc ksc : Nat} {Qy : kv_Q} {r1 : Nat → Option Nat} (hO1 : S a0 = kO 5 r1) (hM : kv_T y_Cb_forgetAllCuts dc kcc ksc B [.ref a0] n S I Qy) (hdp : dc + 1 ≤ d) (hkk : kcc ≤ kc) (hkl : ksc ≤ ks) (K : ∀ v n' S' I', Qy v n' S' I' → kv_V y_Cb_seed d B Q (kc - kcc) (ks - ksc) n' S' I' 12 [(0, .ref a0), (1, .int v1)] (v.toList ++ [])) : kv_V y_Cb_seed d B Q kc ks n S I 8 [(0, .ref a0), (1, .int v1)] [] := by
  refine kv_aload_n dd_Cb_seed_8 rfl ?_
  exact kv_callV [] [] ls_Cb_34 hO1 hM dd_Cb_seed_9 rfl hdp (Nat.le_of_ble_eq_true rfl) hkk hkl (fun v n' S' I' hv => kv_loc [0, 1] rfl (K v n' S' I' hv))
theorem bl_Cb_seed_12 {d : Nat} {B : kv_B} {Q : kv_Q} {kc ks n : Nat} {S : kv_SM} {I : kv_IM} {a0 : Nat} {v1 : Int32} (hQ : Q (some (.int 1)) n S I) : kv_V y_Cb_seed d B Q kc ks n S I 12 [(0, .ref a0), (1, .int v1)] [] := by
  refine kv_iconst (v := 1) dd_Cb_seed_12 (by decide) ?_
  exact kv_end (v := some (.int 1)) hQ ⟨dd_Cb_seed_13, .int, rfl, rfl⟩
theorem bl_Cb_forgetAllCuts_0 {d : Nat} {B : kv_B} {Q : kv_Q} {kc ks n : Nat} {S : kv_SM} {I : kv_IM} {a0 : Nat} (K : kv_V y_Cb_forgetAllCuts d B Q kc ks n S I 2 [(0, .ref a0), (1, .int 0)] []) : kv_V y_Cb_forgetAllCuts d B Q kc ks n S I 0 [(0, .ref a0)] [] := by
  refine kv_iconst (v := 0) dd_Cb_forgetAllCuts_0 (by decide) ?_
  refine kv_istore_n (L' := [(1, .int 0), (0, .ref a0)]) dd_Cb_forgetAllCuts_1 (by decide) rfl ?_
  exact kv_loc [1, 0] rfl K
theorem bl_Cb_forgetAllCuts_2 {d : Nat} {B : kv_B} {Q : kv_Q} {kc ks n : Nat} {S : kv_SM} {I : kv_IM} {a0 : Nat} {v1 : Int32} (Kt : 4 ≤ v1 → kv_V y_Cb_forgetAllCuts d B Q kc ks n S I 22 [(0, .ref a0), (1, .int v1)] []) (Kf : ¬ 4 ≤ v1 → kv_V y_Cb_forgetAllCuts d B Q kc ks n S I 7 [(0, .ref a0), (1, .int v1)] []) : kv_V y_Cb_forgetAllCuts d B Q kc ks n S I 2 [(0, .ref a0), (1, .int v1)] [] := by
  refine kv_iload_n dd_Cb_forgetAllCuts_2 rfl ?_
  refine kv_iconst (v := 4) dd_Cb_forgetAllCuts_3 (by decide) ?_
  exact kv_icmp_ge 22 dd_Cb_forgetAllCuts_4 (by decide) (fun h => kv_loc [0, 1] rfl (Kt h)) (fun h => kv_loc [0, 1] rfl (Kf h))
theorem bl_Cb_forgetAllCuts_7 {d : Nat} {B : kv_B} {Q : kv_Q} {kc ks n : Nat} {S : kv_SM} {I : kv_IM} {a0 : Nat} {v1 : Int32} {r1 : Nat → Option Nat} {q2 : Nat} {m3 : Nat} {r3 : Nat → Option Nat} {j4 : Nat} {q5 : Nat} {dc kcc ksc : Nat} {Qy : kv_Q} {r6 : Nat → Option Nat} (hO1 : S a0 = kO 5 r1) (hr2 : r1 1 = some q2) (hA3 : S q2 = kA 4 m3 r3) (hi4 : v1 = nI j4 ∧ j4 < m3 ∧ m3 < 2 ^ 31) (he5 : r3 j4 = some q5) (hO6 : S q5 = kO 4 r6) (hM : kv_T y_Txt_forgetCuts dc kcc ksc B [.ref q5] n S I Qy) (hdp : dc + 1 ≤ d) (hkk : kcc ≤ kc) (hkl : ksc ≤ ks) (K : ∀ v n' S' I', Qy v n' S' I' → kv_V y_Cb_forgetAllCuts d B Q (kc - kcc) (ks - ksc) n' S' I' 16 [(0, .ref a0), (1, .int v1)] (v.toList ++ [])) : kv_V y_Cb_forgetAllCuts d B Q kc ks n S I 7 [(0, .ref a0), (1, .int v1)] [] := by
  refine kv_aload_n dd_Cb_forgetAllCuts_7 rfl ?_
  refine kv_getR fl_Cb_18 dd_Cb_forgetAllCuts_8 hO1 hr2 ?_
  refine kv_iload_n dd_Cb_forgetAllCuts_11 rfl ?_
  refine kv_aald j4 dd_Cb_forgetAllCuts_12 hA3 ⟨2, _, fun _ => rfl⟩ hi4.1 hi4.2.1 hi4.2.2 he5 ?_
  exact kv_callV [] [] ls_Cb_186 hO6 hM dd_Cb_forgetAllCuts_13 rfl hdp (Nat.le_of_ble_eq_true rfl) hkk hkl (fun v n' S' I' hv => kv_loc [0, 1] rfl (K v n' S' I' hv))
theorem bl_Cb_forgetAllCuts_16 {d : Nat} {B : kv_B} {Q : kv_Q} {kc ks n : Nat} {S : kv_SM} {I : kv_IM} {a0 : Nat} {v1 : Int32} (K : kv_V y_Cb_forgetAllCuts d B Q kc ks n S I 2 [(0, .ref a0), (1, .int (v1 + 1))] []) : kv_V y_Cb_forgetAllCuts d B Q kc ks n S I 16 [(0, .ref a0), (1, .int v1)] [] := by
  refine kv_iinc (v := v1 + 1) (L' := [(1, .int (v1 + 1)), (0, .ref a0)]) dd_Cb_forgetAllCuts_16 rfl rfl (by decide) rfl ?_
  refine kv_goto 2 dd_Cb_forgetAllCuts_19 (by decide) ?_
  exact kv_loc [1, 0] rfl K
theorem bl_Cb_forgetAllCuts_22 {d : Nat} {B : kv_B} {Q : kv_Q} {kc ks n : Nat} {S : kv_SM} {I : kv_IM} {a0 : Nat} {v1 : Int32} (hQ : Q (none) n S I) : kv_V y_Cb_forgetAllCuts d B Q kc ks n S I 22 [(0, .ref a0), (1, .int v1)] [] := by
  exact kv_end (v := none) hQ ⟨dd_Cb_forgetAllCuts_22, rfl⟩
theorem bl_Cb_rule_0 {d : Nat} {B : kv_B} {Q : kv_Q} {kc ks n : Nat} {S : kv_SM} {I : kv_IM} {a0 : Nat} {v1 : Int32} {v2 : Int32} {v3 : Int32} {v4 : Int32} {v5 : Int32} {v6 : Int32} {dc kcc ksc : Nat} {Qy : kv_Q} (hM : kv_T y_Rul_fit dc kcc ksc B [.int v1, .int v2, .int v3, .int v4, .int v5, .int v6] n S I Qy) (hdp : dc + 1 ≤ d) (hkk : kcc ≤ kc) (hkl : ksc ≤ ks) (K : ∀ v n' S' I', Qy v n' S' I' → kv_V y_Cb_rule d B Q (kc - kcc) (ks - ksc) n' S' I' 12 [(0, .ref a0), (1, .int v1), (2, .int v2), (3, .int v3), (4, .int v4), (5, .int v5), (6, .int v6)] (v.toList ++ [])) : kv_V y_Cb_rule d B Q kc ks n S I 0 [(0, .ref a0), (1, .int v1), (2, .int v2), (3, .int v3), (4, .int v4), (5, .int v5), (6, .int v6)] [] := by
  refine kv_iload_n dd_Cb_rule_0 rfl ?_
  refine kv_iload_n dd_Cb_rule_1 rfl ?_
  refine kv_iload_n dd_Cb_rule_2 rfl ?_
  refine kv_iload dd_Cb_rule_3 rfl ?_
  refine kv_iload dd_Cb_rule_5 rfl ?_
  refine kv_iload dd_Cb_rule_7 rfl ?_
  exact kv_callS [.int v1, .int v2, .int v3, .int v4, .int v5, .int v6] [] ls_Cb_37 hM dd_Cb_rule_9 rfl hdp (Nat.le_of_ble_eq_true rfl) hkk hkl (fun v n' S' I' hv => kv_loc [0, 1, 2, 3, 4, 5, 6] rfl (K v n' S' I' hv))
theorem bl_Cb_rule_12 {d : Nat} {B : kv_B} {Q : kv_Q} {kc ks n : Nat} {S : kv_SM} {I : kv_IM} {a0 : Nat} {v1 : Int32} {v2 : Int32} {v3 : Int32} {v4 : Int32} {v5 : Int32} {v6 : Int32} {t0 : Int32} (Kt : ¬ t0 = 0 → kv_V y_Cb_rule d B Q kc ks n S I 17 [(0, .ref a0), (1, .int v1), (2, .int v2), (3, .int v3), (4, .int v4), (5, .int v5), (6, .int v6)] []) (Kf : t0 = 0 → kv_V y_Cb_rule d B Q kc ks n S I 15 [(0, .ref a0), (1, .int v1), (2, .int v2), (3, .int v3), (4, .int v4), (5, .int v5), (6, .int v6)] []) : kv_V y_Cb_rule d B Q kc ks n S I 12 [(0, .ref a0), (1, .int v1), (2, .int v2), (3, .int v3), (4, .int v4), (5, .int v5), (6, .int v6)] [.int t0] := by
  exact kv_if_ne 17 dd_Cb_rule_12 (by decide) (fun h => kv_loc [0, 1, 2, 3, 4, 5, 6] rfl (Kt h)) (fun h => kv_loc [0, 1, 2, 3, 4, 5, 6] rfl (Kf h))
theorem bl_Cb_rule_15 {d : Nat} {B : kv_B} {Q : kv_Q} {kc ks n : Nat} {S : kv_SM} {I : kv_IM} {a0 : Nat} {v1 : Int32} {v2 : Int32} {v3 : Int32} {v4 : Int32} {v5 : Int32} {v6 : Int32} (hQ : Q (some (.int ((-1)))) n S I) : kv_V y_Cb_rule d B Q kc ks n S I 15 [(0, .ref a0), (1, .int v1), (2, .int v2), (3, .int v3), (4, .int v4), (5, .int v5), (6, .int v6)] [] := by
  refine kv_iconst (v := (-1)) dd_Cb_rule_15 (by decide) ?_
  exact kv_end (v := some (.int ((-1)))) hQ ⟨dd_Cb_rule_16, .int, rfl, rfl⟩
theorem bl_Cb_rule_17 {d : Nat} {B : kv_B} {Q : kv_Q} {kc ks n : Nat} {S : kv_SM} {I : kv_IM} {a0 : Nat} {v1 : Int32} {v2 : Int32} {v3 : Int32} {v4 : Int32} {v5 : Int32} {v6 : Int32} {r1 : Nat → Option Nat} {q2 : Nat} {dc kcc ksc : Nat} {Qy : kv_Q} {r3 : Nat → Option Nat} (hO1 : S a0 = kO 5 r1) (hr2 : r1 0 = some q2) (hO3 : S q2 = kO 1 r3) (hM : kv_T y_Rul_take dc kcc ksc B [.ref q2, .int v1, .int v2, .int v3, .int v4, .int v5, .int v6] n S I Qy) (hdp : dc + 1 ≤ d) (hkk : kcc ≤ kc) (hkl : ksc ≤ ks) (K : ∀ v n' S' I', Qy v n' S' I' → kv_V y_Cb_rule d B Q (kc - kcc) (ks - ksc) n' S' I' 33 [(0, .ref a0), (1, .int v1), (2, .int v2), (3, .int v3), (4, .int v4), (5, .int v5), (6, .int v6)] (v.toList ++ [])) : kv_V y_Cb_rule d B Q kc ks n S I 17 [(0, .ref a0), (1, .int v1), (2, .int v2), (3, .int v3), (4, .int v4), (5, .int v5), (6, .int v6)] [] := by
  refine kv_aload_n dd_Cb_rule_17 rfl ?_
  refine kv_getR fl_Cb_10 dd_Cb_rule_18 hO1 hr2 ?_
  refine kv_iload_n dd_Cb_rule_21 rfl ?_
  refine kv_iload_n dd_Cb_rule_22 rfl ?_
  refine kv_iload_n dd_Cb_rule_23 rfl ?_
  refine kv_iload dd_Cb_rule_24 rfl ?_
  refine kv_iload dd_Cb_rule_26 rfl ?_
  refine kv_iload dd_Cb_rule_28 rfl ?_
  exact kv_callV [.int v1, .int v2, .int v3, .int v4, .int v5, .int v6] [] ls_Cb_41 hO3 hM dd_Cb_rule_30 rfl hdp (Nat.le_of_ble_eq_true rfl) hkk hkl (fun v n' S' I' hv => kv_loc [0, 1, 2, 3, 4, 5, 6] rfl (K v n' S' I' hv))
theorem bl_Cb_rule_33 {d : Nat} {B : kv_B} {Q : kv_Q} {kc ks n : Nat} {S : kv_SM} {I : kv_IM} {a0 : Nat} {v1 : Int32} {v2 : Int32} {v3 : Int32} {v4 : Int32} {v5 : Int32} {v6 : Int32} {dc kcc ksc : Nat} {Qy : kv_Q} {r1 : Nat → Option Nat} (hO1 : S a0 = kO 5 r1) (hM : kv_T y_Cb_forgetAllCuts dc kcc ksc B [.ref a0] n S I Qy) (hdp : dc + 1 ≤ d) (hkk : kcc ≤ kc) (hkl : ksc ≤ ks) (K : ∀ v n' S' I', Qy v n' S' I' → kv_V y_Cb_rule d B Q (kc - kcc) (ks - ksc) n' S' I' 37 [(0, .ref a0), (1, .int v1), (2, .int v2), (3, .int v3), (4, .int v4), (5, .int v5), (6, .int v6)] (v.toList ++ [])) : kv_V y_Cb_rule d B Q kc ks n S I 33 [(0, .ref a0), (1, .int v1), (2, .int v2), (3, .int v3), (4, .int v4), (5, .int v5), (6, .int v6)] [] := by
  refine kv_aload_n dd_Cb_rule_33 rfl ?_
  exact kv_callV [] [] ls_Cb_34 hO1 hM dd_Cb_rule_34 rfl hdp (Nat.le_of_ble_eq_true rfl) hkk hkl (fun v n' S' I' hv => kv_loc [0, 1, 2, 3, 4, 5, 6] rfl (K v n' S' I' hv))
theorem bl_Cb_rule_37 {d : Nat} {B : kv_B} {Q : kv_Q} {kc ks n : Nat} {S : kv_SM} {I : kv_IM} {a0 : Nat} {v1 : Int32} {v2 : Int32} {v3 : Int32} {v4 : Int32} {v5 : Int32} {v6 : Int32} (hQ : Q (some (.int 1)) n S I) : kv_V y_Cb_rule d B Q kc ks n S I 37 [(0, .ref a0), (1, .int v1), (2, .int v2), (3, .int v3), (4, .int v4), (5, .int v5), (6, .int v6)] [] := by
  refine kv_iconst (v := 1) dd_Cb_rule_37 (by decide) ?_
  exact kv_end (v := some (.int 1)) hQ ⟨dd_Cb_rule_38, .int, rfl, rfl⟩
theorem bl_Cb_add_0 {d : Nat} {B : kv_B} {Q : kv_Q} {kc ks n : Nat} {S : kv_SM} {I : kv_IM} {a0 : Nat} {v1 : Int32} {v2 : Int32} {dc kcc ksc : Nat} {Qy : kv_Q} (hM : kv_T y_Cb_isText dc kcc ksc B [.int v1] n S I Qy) (hdp : dc + 1 ≤ d) (hkk : kcc ≤ kc) (hkl : ksc ≤ ks) (K : ∀ v n' S' I', Qy v n' S' I' → kv_V y_Cb_add d B Q (kc - kcc) (ks - ksc) n' S' I' 4 [(0, .ref a0), (1, .int v1), (2, .int v2)] (v.toList ++ [])) : kv_V y_Cb_add d B Q kc ks n S I 0 [(0, .ref a0), (1, .int v1), (2, .int v2)] [] := by
  refine kv_iload_n dd_Cb_add_0 rfl ?_
  exact kv_callS [.int v1] [] ls_Cb_45 hM dd_Cb_add_1 rfl hdp (Nat.le_of_ble_eq_true rfl) hkk hkl (fun v n' S' I' hv => kv_loc [0, 1, 2] rfl (K v n' S' I' hv))
theorem bl_Cb_add_4 {d : Nat} {B : kv_B} {Q : kv_Q} {kc ks n : Nat} {S : kv_SM} {I : kv_IM} {a0 : Nat} {v1 : Int32} {v2 : Int32} {t0 : Int32} (Kt : t0 = 0 → kv_V y_Cb_add d B Q kc ks n S I 14 [(0, .ref a0), (1, .int v1), (2, .int v2)] []) (Kf : ¬ t0 = 0 → kv_V y_Cb_add d B Q kc ks n S I 7 [(0, .ref a0), (1, .int v1), (2, .int v2)] []) : kv_V y_Cb_add d B Q kc ks n S I 4 [(0, .ref a0), (1, .int v1), (2, .int v2)] [.int t0] := by
  exact kv_if_eq 14 dd_Cb_add_4 (by decide) (fun h => kv_loc [0, 1, 2] rfl (Kt h)) (fun h => kv_loc [0, 1, 2] rfl (Kf h))
theorem bl_Cb_add_7 {d : Nat} {B : kv_B} {Q : kv_Q} {kc ks n : Nat} {S : kv_SM} {I : kv_IM} {a0 : Nat} {v1 : Int32} {v2 : Int32} {dc kcc ksc : Nat} {Qy : kv_Q} (hM : kv_T y_Cb_isByte dc kcc ksc B [.int v2] n S I Qy) (hdp : dc + 1 ≤ d) (hkk : kcc ≤ kc) (hkl : ksc ≤ ks) (K : ∀ v n' S' I', Qy v n' S' I' → kv_V y_Cb_add d B Q (kc - kcc) (ks - ksc) n' S' I' 11 [(0, .ref a0), (1, .int v1), (2, .int v2)] (v.toList ++ [])) : kv_V y_Cb_add d B Q kc ks n S I 7 [(0, .ref a0), (1, .int v1), (2, .int v2)] [] := by
  refine kv_iload_n dd_Cb_add_7 rfl ?_
  exact kv_callS [.int v2] [] ls_Cb_49 hM dd_Cb_add_8 rfl hdp (Nat.le_of_ble_eq_true rfl) hkk hkl (fun v n' S' I' hv => kv_loc [0, 1, 2] rfl (K v n' S' I' hv))
theorem bl_Cb_add_11 {d : Nat} {B : kv_B} {Q : kv_Q} {kc ks n : Nat} {S : kv_SM} {I : kv_IM} {a0 : Nat} {v1 : Int32} {v2 : Int32} {t0 : Int32} (Kt : ¬ t0 = 0 → kv_V y_Cb_add d B Q kc ks n S I 16 [(0, .ref a0), (1, .int v1), (2, .int v2)] []) (Kf : t0 = 0 → kv_V y_Cb_add d B Q kc ks n S I 14 [(0, .ref a0), (1, .int v1), (2, .int v2)] []) : kv_V y_Cb_add d B Q kc ks n S I 11 [(0, .ref a0), (1, .int v1), (2, .int v2)] [.int t0] := by
  exact kv_if_ne 16 dd_Cb_add_11 (by decide) (fun h => kv_loc [0, 1, 2] rfl (Kt h)) (fun h => kv_loc [0, 1, 2] rfl (Kf h))
theorem bl_Cb_add_14 {d : Nat} {B : kv_B} {Q : kv_Q} {kc ks n : Nat} {S : kv_SM} {I : kv_IM} {a0 : Nat} {v1 : Int32} {v2 : Int32} (hQ : Q (some (.int ((-1)))) n S I) : kv_V y_Cb_add d B Q kc ks n S I 14 [(0, .ref a0), (1, .int v1), (2, .int v2)] [] := by
  refine kv_iconst (v := (-1)) dd_Cb_add_14 (by decide) ?_
  exact kv_end (v := some (.int ((-1)))) hQ ⟨dd_Cb_add_15, .int, rfl, rfl⟩
theorem bl_Cb_add_16 {d : Nat} {B : kv_B} {Q : kv_Q} {kc ks n : Nat} {S : kv_SM} {I : kv_IM} {a0 : Nat} {v1 : Int32} {v2 : Int32} {r1 : Nat → Option Nat} {q2 : Nat} {m3 : Nat} {r3 : Nat → Option Nat} {j4 : Nat} {q5 : Nat} {r6 : Nat → Option Nat} {dc kcc ksc : Nat} {Qy : kv_Q} (hO1 : S a0 = kO 5 r1) (hr2 : r1 1 = some q2) (hA3 : S q2 = kA 4 m3 r3) (hi4 : v1 = nI j4 ∧ j4 < m3 ∧ m3 < 2 ^ 31) (he5 : r3 j4 = some q5) (hO6 : S q5 = kO 4 r6) (hM : kv_T y_Txt_put dc kcc ksc B [.ref q5, .int (I q5 1), .int v2] n S I Qy) (hdp : dc + 1 ≤ d) (hkk : kcc ≤ kc) (hkl : ksc ≤ ks) (K : ∀ v n' S' I', Qy v n' S' I' → kv_V y_Cb_add d B Q (kc - kcc) (ks - ksc) n' S' I' 35 [(0, .ref a0), (1, .int v1), (2, .int v2)] (v.toList ++ [])) : kv_V y_Cb_add d B Q kc ks n S I 16 [(0, .ref a0), (1, .int v1), (2, .int v2)] [] := by
  refine kv_aload_n dd_Cb_add_16 rfl ?_
  refine kv_getR fl_Cb_18 dd_Cb_add_17 hO1 hr2 ?_
  refine kv_iload_n dd_Cb_add_20 rfl ?_
  refine kv_aald j4 dd_Cb_add_21 hA3 ⟨2, _, fun _ => rfl⟩ hi4.1 hi4.2.1 hi4.2.2 he5 ?_
  refine kv_aload_n dd_Cb_add_22 rfl ?_
  refine kv_getR fl_Cb_18 dd_Cb_add_23 hO1 hr2 ?_
  refine kv_iload_n dd_Cb_add_26 rfl ?_
  refine kv_aald j4 dd_Cb_add_27 hA3 ⟨2, _, fun _ => rfl⟩ hi4.1 hi4.2.1 hi4.2.2 he5 ?_
  refine kv_getI fl_Cb_52 dd_Cb_add_28 hO6 ?_
  refine kv_iload_n dd_Cb_add_31 rfl ?_
  exact kv_callV [.int (I q5 1), .int v2] [] ls_Cb_56 hO6 hM dd_Cb_add_32 rfl hdp (Nat.le_of_ble_eq_true rfl) hkk hkl (fun v n' S' I' hv => kv_loc [0, 1, 2] rfl (K v n' S' I' hv))
theorem bl_Cb_add_35 {d : Nat} {B : kv_B} {Q : kv_Q} {kc ks n : Nat} {S : kv_SM} {I : kv_IM} {a0 : Nat} {v1 : Int32} {v2 : Int32} {t0 : Int32} (hQ : Q (some (.int t0)) n S I) : kv_V y_Cb_add d B Q kc ks n S I 35 [(0, .ref a0), (1, .int v1), (2, .int v2)] [.int t0] := by
  exact kv_end (v := some (.int t0)) hQ ⟨dd_Cb_add_35, .int, rfl, rfl⟩
theorem bl_Cb_isText_0 {d : Nat} {B : kv_B} {Q : kv_Q} {kc ks n : Nat} {S : kv_SM} {I : kv_IM} {v0 : Int32} (Kt : v0 < 0 → kv_V y_Cb_isText d B Q kc ks n S I 13 [(0, .int v0)] []) (Kf : ¬ v0 < 0 → kv_V y_Cb_isText d B Q kc ks n S I 4 [(0, .int v0)] []) : kv_V y_Cb_isText d B Q kc ks n S I 0 [(0, .int v0)] [] := by
  refine kv_iload_n dd_Cb_isText_0 rfl ?_
  exact kv_if_lt 13 dd_Cb_isText_1 (by decide) (fun h => kv_loc [0] rfl (Kt h)) (fun h => kv_loc [0] rfl (Kf h))
theorem bl_Cb_isText_4 {d : Nat} {B : kv_B} {Q : kv_Q} {kc ks n : Nat} {S : kv_SM} {I : kv_IM} {v0 : Int32} (Kt : 4 ≤ v0 → kv_V y_Cb_isText d B Q kc ks n S I 13 [(0, .int v0)] []) (Kf : ¬ 4 ≤ v0 → kv_V y_Cb_isText d B Q kc ks n S I 9 [(0, .int v0)] []) : kv_V y_Cb_isText d B Q kc ks n S I 4 [(0, .int v0)] [] := by
  refine kv_iload_n dd_Cb_isText_4 rfl ?_
  refine kv_iconst (v := 4) dd_Cb_isText_5 (by decide) ?_
  exact kv_icmp_ge 13 dd_Cb_isText_6 (by decide) (fun h => kv_loc [0] rfl (Kt h)) (fun h => kv_loc [0] rfl (Kf h))
theorem bl_Cb_isText_9 {d : Nat} {B : kv_B} {Q : kv_Q} {kc ks n : Nat} {S : kv_SM} {I : kv_IM} {v0 : Int32} (K : kv_V y_Cb_isText d B Q kc ks n S I 14 [(0, .int v0)] [.int 1]) : kv_V y_Cb_isText d B Q kc ks n S I 9 [(0, .int v0)] [] := by
  refine kv_iconst (v := 1) dd_Cb_isText_9 (by decide) ?_
  refine kv_goto 14 dd_Cb_isText_10 (by decide) ?_
  exact kv_loc [0] rfl K
theorem bl_Cb_isText_13 {d : Nat} {B : kv_B} {Q : kv_Q} {kc ks n : Nat} {S : kv_SM} {I : kv_IM} {v0 : Int32} (K : kv_V y_Cb_isText d B Q kc ks n S I 14 [(0, .int v0)] [.int 0]) : kv_V y_Cb_isText d B Q kc ks n S I 13 [(0, .int v0)] [] := by
  refine kv_iconst (v := 0) dd_Cb_isText_13 (by decide) ?_
  exact kv_loc [0] rfl K
theorem bl_Cb_isText_14 {d : Nat} {B : kv_B} {Q : kv_Q} {kc ks n : Nat} {S : kv_SM} {I : kv_IM} {v0 : Int32} {t0 : Int32} (hb : narrow .boolean (.int t0) = .int t0) (hQ : Q (some (.int t0)) n S I) : kv_V y_Cb_isText d B Q kc ks n S I 14 [(0, .int v0)] [.int t0] := by
  exact kv_end (v := some (.int t0)) hQ ⟨dd_Cb_isText_14, .boolean, rfl, hb⟩
theorem bl_Cb_isByte_0 {d : Nat} {B : kv_B} {Q : kv_Q} {kc ks n : Nat} {S : kv_SM} {I : kv_IM} {v0 : Int32} (Kt : v0 < 0 → kv_V y_Cb_isByte d B Q kc ks n S I 15 [(0, .int v0)] []) (Kf : ¬ v0 < 0 → kv_V y_Cb_isByte d B Q kc ks n S I 4 [(0, .int v0)] []) : kv_V y_Cb_isByte d B Q kc ks n S I 0 [(0, .int v0)] [] := by
  refine kv_iload_n dd_Cb_isByte_0 rfl ?_
  exact kv_if_lt 15 dd_Cb_isByte_1 (by decide) (fun h => kv_loc [0] rfl (Kt h)) (fun h => kv_loc [0] rfl (Kf h))
theorem bl_Cb_isByte_4 {d : Nat} {B : kv_B} {Q : kv_Q} {kc ks n : Nat} {S : kv_SM} {I : kv_IM} {v0 : Int32} (Kt : 256 ≤ v0 → kv_V y_Cb_isByte d B Q kc ks n S I 15 [(0, .int v0)] []) (Kf : ¬ 256 ≤ v0 → kv_V y_Cb_isByte d B Q kc ks n S I 11 [(0, .int v0)] []) : kv_V y_Cb_isByte d B Q kc ks n S I 4 [(0, .int v0)] [] := by
  refine kv_iload_n dd_Cb_isByte_4 rfl ?_
  refine kv_sipush (v := 256) dd_Cb_isByte_5 (by decide) ?_
  exact kv_icmp_ge 15 dd_Cb_isByte_8 (by decide) (fun h => kv_loc [0] rfl (Kt h)) (fun h => kv_loc [0] rfl (Kf h))
theorem bl_Cb_isByte_11 {d : Nat} {B : kv_B} {Q : kv_Q} {kc ks n : Nat} {S : kv_SM} {I : kv_IM} {v0 : Int32} (K : kv_V y_Cb_isByte d B Q kc ks n S I 16 [(0, .int v0)] [.int 1]) : kv_V y_Cb_isByte d B Q kc ks n S I 11 [(0, .int v0)] [] := by
  refine kv_iconst (v := 1) dd_Cb_isByte_11 (by decide) ?_
  refine kv_goto 16 dd_Cb_isByte_12 (by decide) ?_
  exact kv_loc [0] rfl K
theorem bl_Cb_isByte_15 {d : Nat} {B : kv_B} {Q : kv_Q} {kc ks n : Nat} {S : kv_SM} {I : kv_IM} {v0 : Int32} (K : kv_V y_Cb_isByte d B Q kc ks n S I 16 [(0, .int v0)] [.int 0]) : kv_V y_Cb_isByte d B Q kc ks n S I 15 [(0, .int v0)] [] := by
  refine kv_iconst (v := 0) dd_Cb_isByte_15 (by decide) ?_
  exact kv_loc [0] rfl K
theorem bl_Cb_isByte_16 {d : Nat} {B : kv_B} {Q : kv_Q} {kc ks n : Nat} {S : kv_SM} {I : kv_IM} {v0 : Int32} {t0 : Int32} (hb : narrow .boolean (.int t0) = .int t0) (hQ : Q (some (.int t0)) n S I) : kv_V y_Cb_isByte d B Q kc ks n S I 16 [(0, .int v0)] [.int t0] := by
  exact kv_end (v := some (.int t0)) hQ ⟨dd_Cb_isByte_16, .boolean, rfl, hb⟩
theorem bl_Cb_fill_0 {d : Nat} {B : kv_B} {Q : kv_Q} {kc ks n : Nat} {S : kv_SM} {I : kv_IM} {a0 : Nat} {v1 : Int32} {v2 : Int32} {v3 : Int32} {v4 : Int32} {dc kcc ksc : Nat} {Qy : kv_Q} (hM : kv_T y_Cb_isText dc kcc ksc B [.int v1] n S I Qy) (hdp : dc + 1 ≤ d) (hkk : kcc ≤ kc) (hkl : ksc ≤ ks) (K : ∀ v n' S' I', Qy v n' S' I' → kv_V y_Cb_fill d B Q (kc - kcc) (ks - ksc) n' S' I' 4 [(0, .ref a0), (1, .int v1), (2, .int v2), (3, .int v3), (4, .int v4)] (v.toList ++ [])) : kv_V y_Cb_fill d B Q kc ks n S I 0 [(0, .ref a0), (1, .int v1), (2, .int v2), (3, .int v3), (4, .int v4)] [] := by
  refine kv_iload_n dd_Cb_fill_0 rfl ?_
  exact kv_callS [.int v1] [] ls_Cb_45 hM dd_Cb_fill_1 rfl hdp (Nat.le_of_ble_eq_true rfl) hkk hkl (fun v n' S' I' hv => kv_loc [0, 1, 2, 3, 4] rfl (K v n' S' I' hv))
theorem bl_Cb_fill_4 {d : Nat} {B : kv_B} {Q : kv_Q} {kc ks n : Nat} {S : kv_SM} {I : kv_IM} {a0 : Nat} {v1 : Int32} {v2 : Int32} {v3 : Int32} {v4 : Int32} {t0 : Int32} (Kt : t0 = 0 → kv_V y_Cb_fill d B Q kc ks n S I 33 [(0, .ref a0), (1, .int v1), (2, .int v2), (3, .int v3), (4, .int v4)] []) (Kf : ¬ t0 = 0 → kv_V y_Cb_fill d B Q kc ks n S I 7 [(0, .ref a0), (1, .int v1), (2, .int v2), (3, .int v3), (4, .int v4)] []) : kv_V y_Cb_fill d B Q kc ks n S I 4 [(0, .ref a0), (1, .int v1), (2, .int v2), (3, .int v3), (4, .int v4)] [.int t0] := by
  exact kv_if_eq 33 dd_Cb_fill_4 (by decide) (fun h => kv_loc [0, 1, 2, 3, 4] rfl (Kt h)) (fun h => kv_loc [0, 1, 2, 3, 4] rfl (Kf h))
theorem bl_Cb_fill_7 {d : Nat} {B : kv_B} {Q : kv_Q} {kc ks n : Nat} {S : kv_SM} {I : kv_IM} {a0 : Nat} {v1 : Int32} {v2 : Int32} {v3 : Int32} {v4 : Int32} (Kt : v2 < 1 → kv_V y_Cb_fill d B Q kc ks n S I 33 [(0, .ref a0), (1, .int v1), (2, .int v2), (3, .int v3), (4, .int v4)] []) (Kf : ¬ v2 < 1 → kv_V y_Cb_fill d B Q kc ks n S I 12 [(0, .ref a0), (1, .int v1), (2, .int v2), (3, .int v3), (4, .int v4)] []) : kv_V y_Cb_fill d B Q kc ks n S I 7 [(0, .ref a0), (1, .int v1), (2, .int v2), (3, .int v3), (4, .int v4)] [] := by
  refine kv_iload_n dd_Cb_fill_7 rfl ?_
  refine kv_iconst (v := 1) dd_Cb_fill_8 (by decide) ?_
  exact kv_icmp_lt 33 dd_Cb_fill_9 (by decide) (fun h => kv_loc [0, 1, 2, 3, 4] rfl (Kt h)) (fun h => kv_loc [0, 1, 2, 3, 4] rfl (Kf h))
theorem bl_Cb_fill_12 {d : Nat} {B : kv_B} {Q : kv_Q} {kc ks n : Nat} {S : kv_SM} {I : kv_IM} {a0 : Nat} {v1 : Int32} {v2 : Int32} {v3 : Int32} {v4 : Int32} (Kt : 400 < v2 → kv_V y_Cb_fill d B Q kc ks n S I 33 [(0, .ref a0), (1, .int v1), (2, .int v2), (3, .int v3), (4, .int v4)] []) (Kf : ¬ 400 < v2 → kv_V y_Cb_fill d B Q kc ks n S I 19 [(0, .ref a0), (1, .int v1), (2, .int v2), (3, .int v3), (4, .int v4)] []) : kv_V y_Cb_fill d B Q kc ks n S I 12 [(0, .ref a0), (1, .int v1), (2, .int v2), (3, .int v3), (4, .int v4)] [] := by
  refine kv_iload_n dd_Cb_fill_12 rfl ?_
  refine kv_sipush (v := 400) dd_Cb_fill_13 (by decide) ?_
  exact kv_icmp_gt 33 dd_Cb_fill_16 (by decide) (fun h => kv_loc [0, 1, 2, 3, 4] rfl (Kt h)) (fun h => kv_loc [0, 1, 2, 3, 4] rfl (Kf h))
theorem bl_Cb_fill_19 {d : Nat} {B : kv_B} {Q : kv_Q} {kc ks n : Nat} {S : kv_SM} {I : kv_IM} {a0 : Nat} {v1 : Int32} {v2 : Int32} {v3 : Int32} {v4 : Int32} (Kt : v4 < 1 → kv_V y_Cb_fill d B Q kc ks n S I 33 [(0, .ref a0), (1, .int v1), (2, .int v2), (3, .int v3), (4, .int v4)] []) (Kf : ¬ v4 < 1 → kv_V y_Cb_fill d B Q kc ks n S I 25 [(0, .ref a0), (1, .int v1), (2, .int v2), (3, .int v3), (4, .int v4)] []) : kv_V y_Cb_fill d B Q kc ks n S I 19 [(0, .ref a0), (1, .int v1), (2, .int v2), (3, .int v3), (4, .int v4)] [] := by
  refine kv_iload dd_Cb_fill_19 rfl ?_
  refine kv_iconst (v := 1) dd_Cb_fill_21 (by decide) ?_
  exact kv_icmp_lt 33 dd_Cb_fill_22 (by decide) (fun h => kv_loc [0, 1, 2, 3, 4] rfl (Kt h)) (fun h => kv_loc [0, 1, 2, 3, 4] rfl (Kf h))
theorem bl_Cb_fill_25 {d : Nat} {B : kv_B} {Q : kv_Q} {kc ks n : Nat} {S : kv_SM} {I : kv_IM} {a0 : Nat} {v1 : Int32} {v2 : Int32} {v3 : Int32} {v4 : Int32} (Kt : v4 ≤ 256 → kv_V y_Cb_fill d B Q kc ks n S I 35 [(0, .ref a0), (1, .int v1), (2, .int v2), (3, .int v3), (4, .int v4)] []) (Kf : ¬ v4 ≤ 256 → kv_V y_Cb_fill d B Q kc ks n S I 33 [(0, .ref a0), (1, .int v1), (2, .int v2), (3, .int v3), (4, .int v4)] []) : kv_V y_Cb_fill d B Q kc ks n S I 25 [(0, .ref a0), (1, .int v1), (2, .int v2), (3, .int v3), (4, .int v4)] [] := by
  refine kv_iload dd_Cb_fill_25 rfl ?_
  refine kv_sipush (v := 256) dd_Cb_fill_27 (by decide) ?_
  exact kv_icmp_le 35 dd_Cb_fill_30 (by decide) (fun h => kv_loc [0, 1, 2, 3, 4] rfl (Kt h)) (fun h => kv_loc [0, 1, 2, 3, 4] rfl (Kf h))
theorem bl_Cb_fill_33 {d : Nat} {B : kv_B} {Q : kv_Q} {kc ks n : Nat} {S : kv_SM} {I : kv_IM} {a0 : Nat} {v1 : Int32} {v2 : Int32} {v3 : Int32} {v4 : Int32} (hQ : Q (some (.int ((-1)))) n S I) : kv_V y_Cb_fill d B Q kc ks n S I 33 [(0, .ref a0), (1, .int v1), (2, .int v2), (3, .int v3), (4, .int v4)] [] := by
  refine kv_iconst (v := (-1)) dd_Cb_fill_33 (by decide) ?_
  exact kv_end (v := some (.int ((-1)))) hQ ⟨dd_Cb_fill_34, .int, rfl, rfl⟩
theorem bl_Cb_fill_35 {d : Nat} {B : kv_B} {Q : kv_Q} {kc ks n : Nat} {S : kv_SM} {I : kv_IM} {a0 : Nat} {v1 : Int32} {v2 : Int32} {v3 : Int32} {v4 : Int32} {r1 : Nat → Option Nat} {q2 : Nat} {m3 : Nat} {r3 : Nat → Option Nat} {j4 : Nat} {q5 : Nat} {dc kcc ksc : Nat} {Qy : kv_Q} {r6 : Nat → Option Nat} (hO1 : S a0 = kO 5 r1) (hr2 : r1 1 = some q2) (hA3 : S q2 = kA 4 m3 r3) (hi4 : v1 = nI j4 ∧ j4 < m3 ∧ m3 < 2 ^ 31) (he5 : r3 j4 = some q5) (hO6 : S q5 = kO 4 r6) (hM : kv_T y_Txt_sow dc kcc ksc B [.ref q5, .int v2, .int v3, .int v4] n S I Qy) (hdp : dc + 1 ≤ d) (hkk : kcc ≤ kc) (hkl : ksc ≤ ks) (K : ∀ v n' S' I', Qy v n' S' I' → kv_V y_Cb_fill d B Q (kc - kcc) (ks - ksc) n' S' I' 48 [(0, .ref a0), (1, .int v1), (2, .int v2), (3, .int v3), (4, .int v4)] (v.toList ++ [])) : kv_V y_Cb_fill d B Q kc ks n S I 35 [(0, .ref a0), (1, .int v1), (2, .int v2), (3, .int v3), (4, .int v4)] [] := by
  refine kv_aload_n dd_Cb_fill_35 rfl ?_
  refine kv_getR fl_Cb_18 dd_Cb_fill_36 hO1 hr2 ?_
  refine kv_iload_n dd_Cb_fill_39 rfl ?_
  refine kv_aald j4 dd_Cb_fill_40 hA3 ⟨2, _, fun _ => rfl⟩ hi4.1 hi4.2.1 hi4.2.2 he5 ?_
  refine kv_iload_n dd_Cb_fill_41 rfl ?_
  refine kv_iload_n dd_Cb_fill_42 rfl ?_
  refine kv_iload dd_Cb_fill_43 rfl ?_
  exact kv_callV [.int v2, .int v3, .int v4] [] ls_Cb_60 hO6 hM dd_Cb_fill_45 rfl hdp (Nat.le_of_ble_eq_true rfl) hkk hkl (fun v n' S' I' hv => kv_loc [0, 1, 2, 3, 4] rfl (K v n' S' I' hv))
theorem bl_Cb_fill_48 {d : Nat} {B : kv_B} {Q : kv_Q} {kc ks n : Nat} {S : kv_SM} {I : kv_IM} {a0 : Nat} {v1 : Int32} {v2 : Int32} {v3 : Int32} {v4 : Int32} {t0 : Int32} (hQ : Q (some (.int t0)) n S I) : kv_V y_Cb_fill d B Q kc ks n S I 48 [(0, .ref a0), (1, .int v1), (2, .int v2), (3, .int v3), (4, .int v4)] [.int t0] := by
  exact kv_end (v := some (.int t0)) hQ ⟨dd_Cb_fill_48, .int, rfl, rfl⟩
theorem bl_Cb_insert_0 {d : Nat} {B : kv_B} {Q : kv_Q} {kc ks n : Nat} {S : kv_SM} {I : kv_IM} {a0 : Nat} {v1 : Int32} {v2 : Int32} {v3 : Int32} {dc kcc ksc : Nat} {Qy : kv_Q} (hM : kv_T y_Cb_isText dc kcc ksc B [.int v1] n S I Qy) (hdp : dc + 1 ≤ d) (hkk : kcc ≤ kc) (hkl : ksc ≤ ks) (K : ∀ v n' S' I', Qy v n' S' I' → kv_V y_Cb_insert d B Q (kc - kcc) (ks - ksc) n' S' I' 4 [(0, .ref a0), (1, .int v1), (2, .int v2), (3, .int v3)] (v.toList ++ [])) : kv_V y_Cb_insert d B Q kc ks n S I 0 [(0, .ref a0), (1, .int v1), (2, .int v2), (3, .int v3)] [] := by
  refine kv_iload_n dd_Cb_insert_0 rfl ?_
  exact kv_callS [.int v1] [] ls_Cb_45 hM dd_Cb_insert_1 rfl hdp (Nat.le_of_ble_eq_true rfl) hkk hkl (fun v n' S' I' hv => kv_loc [0, 1, 2, 3] rfl (K v n' S' I' hv))
theorem bl_Cb_insert_4 {d : Nat} {B : kv_B} {Q : kv_Q} {kc ks n : Nat} {S : kv_SM} {I : kv_IM} {a0 : Nat} {v1 : Int32} {v2 : Int32} {v3 : Int32} {t0 : Int32} (Kt : t0 = 0 → kv_V y_Cb_insert d B Q kc ks n S I 31 [(0, .ref a0), (1, .int v1), (2, .int v2), (3, .int v3)] []) (Kf : ¬ t0 = 0 → kv_V y_Cb_insert d B Q kc ks n S I 7 [(0, .ref a0), (1, .int v1), (2, .int v2), (3, .int v3)] []) : kv_V y_Cb_insert d B Q kc ks n S I 4 [(0, .ref a0), (1, .int v1), (2, .int v2), (3, .int v3)] [.int t0] := by
  exact kv_if_eq 31 dd_Cb_insert_4 (by decide) (fun h => kv_loc [0, 1, 2, 3] rfl (Kt h)) (fun h => kv_loc [0, 1, 2, 3] rfl (Kf h))
theorem bl_Cb_insert_7 {d : Nat} {B : kv_B} {Q : kv_Q} {kc ks n : Nat} {S : kv_SM} {I : kv_IM} {a0 : Nat} {v1 : Int32} {v2 : Int32} {v3 : Int32} (Kt : v2 < 0 → kv_V y_Cb_insert d B Q kc ks n S I 31 [(0, .ref a0), (1, .int v1), (2, .int v2), (3, .int v3)] []) (Kf : ¬ v2 < 0 → kv_V y_Cb_insert d B Q kc ks n S I 11 [(0, .ref a0), (1, .int v1), (2, .int v2), (3, .int v3)] []) : kv_V y_Cb_insert d B Q kc ks n S I 7 [(0, .ref a0), (1, .int v1), (2, .int v2), (3, .int v3)] [] := by
  refine kv_iload_n dd_Cb_insert_7 rfl ?_
  exact kv_if_lt 31 dd_Cb_insert_8 (by decide) (fun h => kv_loc [0, 1, 2, 3] rfl (Kt h)) (fun h => kv_loc [0, 1, 2, 3] rfl (Kf h))
theorem bl_Cb_insert_11 {d : Nat} {B : kv_B} {Q : kv_Q} {kc ks n : Nat} {S : kv_SM} {I : kv_IM} {a0 : Nat} {v1 : Int32} {v2 : Int32} {v3 : Int32} {r1 : Nat → Option Nat} {q2 : Nat} {m3 : Nat} {r3 : Nat → Option Nat} {j4 : Nat} {q5 : Nat} {r6 : Nat → Option Nat} (hO1 : S a0 = kO 5 r1) (hr2 : r1 1 = some q2) (hA3 : S q2 = kA 4 m3 r3) (hi4 : v1 = nI j4 ∧ j4 < m3 ∧ m3 < 2 ^ 31) (he5 : r3 j4 = some q5) (hO6 : S q5 = kO 4 r6) (Kt : (I q5 1) < v2 → kv_V y_Cb_insert d B Q kc ks n S I 31 [(0, .ref a0), (1, .int v1), (2, .int v2), (3, .int v3)] []) (Kf : ¬ (I q5 1) < v2 → kv_V y_Cb_insert d B Q kc ks n S I 24 [(0, .ref a0), (1, .int v1), (2, .int v2), (3, .int v3)] []) : kv_V y_Cb_insert d B Q kc ks n S I 11 [(0, .ref a0), (1, .int v1), (2, .int v2), (3, .int v3)] [] := by
  refine kv_iload_n dd_Cb_insert_11 rfl ?_
  refine kv_aload_n dd_Cb_insert_12 rfl ?_
  refine kv_getR fl_Cb_18 dd_Cb_insert_13 hO1 hr2 ?_
  refine kv_iload_n dd_Cb_insert_16 rfl ?_
  refine kv_aald j4 dd_Cb_insert_17 hA3 ⟨2, _, fun _ => rfl⟩ hi4.1 hi4.2.1 hi4.2.2 he5 ?_
  refine kv_getI fl_Cb_52 dd_Cb_insert_18 hO6 ?_
  exact kv_icmp_gt 31 dd_Cb_insert_21 (by decide) (fun h => kv_loc [0, 1, 2, 3] rfl (Kt h)) (fun h => kv_loc [0, 1, 2, 3] rfl (Kf h))
theorem bl_Cb_insert_24 {d : Nat} {B : kv_B} {Q : kv_Q} {kc ks n : Nat} {S : kv_SM} {I : kv_IM} {a0 : Nat} {v1 : Int32} {v2 : Int32} {v3 : Int32} {dc kcc ksc : Nat} {Qy : kv_Q} (hM : kv_T y_Cb_isByte dc kcc ksc B [.int v3] n S I Qy) (hdp : dc + 1 ≤ d) (hkk : kcc ≤ kc) (hkl : ksc ≤ ks) (K : ∀ v n' S' I', Qy v n' S' I' → kv_V y_Cb_insert d B Q (kc - kcc) (ks - ksc) n' S' I' 28 [(0, .ref a0), (1, .int v1), (2, .int v2), (3, .int v3)] (v.toList ++ [])) : kv_V y_Cb_insert d B Q kc ks n S I 24 [(0, .ref a0), (1, .int v1), (2, .int v2), (3, .int v3)] [] := by
  refine kv_iload_n dd_Cb_insert_24 rfl ?_
  exact kv_callS [.int v3] [] ls_Cb_49 hM dd_Cb_insert_25 rfl hdp (Nat.le_of_ble_eq_true rfl) hkk hkl (fun v n' S' I' hv => kv_loc [0, 1, 2, 3] rfl (K v n' S' I' hv))
theorem bl_Cb_insert_28 {d : Nat} {B : kv_B} {Q : kv_Q} {kc ks n : Nat} {S : kv_SM} {I : kv_IM} {a0 : Nat} {v1 : Int32} {v2 : Int32} {v3 : Int32} {t0 : Int32} (Kt : ¬ t0 = 0 → kv_V y_Cb_insert d B Q kc ks n S I 33 [(0, .ref a0), (1, .int v1), (2, .int v2), (3, .int v3)] []) (Kf : t0 = 0 → kv_V y_Cb_insert d B Q kc ks n S I 31 [(0, .ref a0), (1, .int v1), (2, .int v2), (3, .int v3)] []) : kv_V y_Cb_insert d B Q kc ks n S I 28 [(0, .ref a0), (1, .int v1), (2, .int v2), (3, .int v3)] [.int t0] := by
  exact kv_if_ne 33 dd_Cb_insert_28 (by decide) (fun h => kv_loc [0, 1, 2, 3] rfl (Kt h)) (fun h => kv_loc [0, 1, 2, 3] rfl (Kf h))
theorem bl_Cb_insert_31 {d : Nat} {B : kv_B} {Q : kv_Q} {kc ks n : Nat} {S : kv_SM} {I : kv_IM} {a0 : Nat} {v1 : Int32} {v2 : Int32} {v3 : Int32} (hQ : Q (some (.int ((-1)))) n S I) : kv_V y_Cb_insert d B Q kc ks n S I 31 [(0, .ref a0), (1, .int v1), (2, .int v2), (3, .int v3)] [] := by
  refine kv_iconst (v := (-1)) dd_Cb_insert_31 (by decide) ?_
  exact kv_end (v := some (.int ((-1)))) hQ ⟨dd_Cb_insert_32, .int, rfl, rfl⟩
theorem bl_Cb_insert_33 {d : Nat} {B : kv_B} {Q : kv_Q} {kc ks n : Nat} {S : kv_SM} {I : kv_IM} {a0 : Nat} {v1 : Int32} {v2 : Int32} {v3 : Int32} {r1 : Nat → Option Nat} {q2 : Nat} {m3 : Nat} {r3 : Nat → Option Nat} {j4 : Nat} {q5 : Nat} {dc kcc ksc : Nat} {Qy : kv_Q} {r6 : Nat → Option Nat} (hO1 : S a0 = kO 5 r1) (hr2 : r1 1 = some q2) (hA3 : S q2 = kA 4 m3 r3) (hi4 : v1 = nI j4 ∧ j4 < m3 ∧ m3 < 2 ^ 31) (he5 : r3 j4 = some q5) (hO6 : S q5 = kO 4 r6) (hM : kv_T y_Txt_put dc kcc ksc B [.ref q5, .int v2, .int v3] n S I Qy) (hdp : dc + 1 ≤ d) (hkk : kcc ≤ kc) (hkl : ksc ≤ ks) (K : ∀ v n' S' I', Qy v n' S' I' → kv_V y_Cb_insert d B Q (kc - kcc) (ks - ksc) n' S' I' 44 [(0, .ref a0), (1, .int v1), (2, .int v2), (3, .int v3)] (v.toList ++ [])) : kv_V y_Cb_insert d B Q kc ks n S I 33 [(0, .ref a0), (1, .int v1), (2, .int v2), (3, .int v3)] [] := by
  refine kv_aload_n dd_Cb_insert_33 rfl ?_
  refine kv_getR fl_Cb_18 dd_Cb_insert_34 hO1 hr2 ?_
  refine kv_iload_n dd_Cb_insert_37 rfl ?_
  refine kv_aald j4 dd_Cb_insert_38 hA3 ⟨2, _, fun _ => rfl⟩ hi4.1 hi4.2.1 hi4.2.2 he5 ?_
  refine kv_iload_n dd_Cb_insert_39 rfl ?_
  refine kv_iload_n dd_Cb_insert_40 rfl ?_
  exact kv_callV [.int v2, .int v3] [] ls_Cb_56 hO6 hM dd_Cb_insert_41 rfl hdp (Nat.le_of_ble_eq_true rfl) hkk hkl (fun v n' S' I' hv => kv_loc [0, 1, 2, 3] rfl (K v n' S' I' hv))
theorem bl_Cb_insert_44 {d : Nat} {B : kv_B} {Q : kv_Q} {kc ks n : Nat} {S : kv_SM} {I : kv_IM} {a0 : Nat} {v1 : Int32} {v2 : Int32} {v3 : Int32} {t0 : Int32} (hQ : Q (some (.int t0)) n S I) : kv_V y_Cb_insert d B Q kc ks n S I 44 [(0, .ref a0), (1, .int v1), (2, .int v2), (3, .int v3)] [.int t0] := by
  exact kv_end (v := some (.int t0)) hQ ⟨dd_Cb_insert_44, .int, rfl, rfl⟩
theorem bl_Cb_remove_0 {d : Nat} {B : kv_B} {Q : kv_Q} {kc ks n : Nat} {S : kv_SM} {I : kv_IM} {a0 : Nat} {v1 : Int32} {v2 : Int32} {v3 : Int32} {dc kcc ksc : Nat} {Qy : kv_Q} (hM : kv_T y_Cb_isText dc kcc ksc B [.int v1] n S I Qy) (hdp : dc + 1 ≤ d) (hkk : kcc ≤ kc) (hkl : ksc ≤ ks) (K : ∀ v n' S' I', Qy v n' S' I' → kv_V y_Cb_remove d B Q (kc - kcc) (ks - ksc) n' S' I' 4 [(0, .ref a0), (1, .int v1), (2, .int v2), (3, .int v3)] (v.toList ++ [])) : kv_V y_Cb_remove d B Q kc ks n S I 0 [(0, .ref a0), (1, .int v1), (2, .int v2), (3, .int v3)] [] := by
  refine kv_iload_n dd_Cb_remove_0 rfl ?_
  exact kv_callS [.int v1] [] ls_Cb_45 hM dd_Cb_remove_1 rfl hdp (Nat.le_of_ble_eq_true rfl) hkk hkl (fun v n' S' I' hv => kv_loc [0, 1, 2, 3] rfl (K v n' S' I' hv))
theorem bl_Cb_remove_4 {d : Nat} {B : kv_B} {Q : kv_Q} {kc ks n : Nat} {S : kv_SM} {I : kv_IM} {a0 : Nat} {v1 : Int32} {v2 : Int32} {v3 : Int32} {t0 : Int32} (Kt : t0 = 0 → kv_V y_Cb_remove d B Q kc ks n S I 24 [(0, .ref a0), (1, .int v1), (2, .int v2), (3, .int v3)] []) (Kf : ¬ t0 = 0 → kv_V y_Cb_remove d B Q kc ks n S I 7 [(0, .ref a0), (1, .int v1), (2, .int v2), (3, .int v3)] []) : kv_V y_Cb_remove d B Q kc ks n S I 4 [(0, .ref a0), (1, .int v1), (2, .int v2), (3, .int v3)] [.int t0] := by
  exact kv_if_eq 24 dd_Cb_remove_4 (by decide) (fun h => kv_loc [0, 1, 2, 3] rfl (Kt h)) (fun h => kv_loc [0, 1, 2, 3] rfl (Kf h))
theorem bl_Cb_remove_7 {d : Nat} {B : kv_B} {Q : kv_Q} {kc ks n : Nat} {S : kv_SM} {I : kv_IM} {a0 : Nat} {v1 : Int32} {v2 : Int32} {v3 : Int32} (Kt : v2 < 0 → kv_V y_Cb_remove d B Q kc ks n S I 24 [(0, .ref a0), (1, .int v1), (2, .int v2), (3, .int v3)] []) (Kf : ¬ v2 < 0 → kv_V y_Cb_remove d B Q kc ks n S I 11 [(0, .ref a0), (1, .int v1), (2, .int v2), (3, .int v3)] []) : kv_V y_Cb_remove d B Q kc ks n S I 7 [(0, .ref a0), (1, .int v1), (2, .int v2), (3, .int v3)] [] := by
  refine kv_iload_n dd_Cb_remove_7 rfl ?_
  exact kv_if_lt 24 dd_Cb_remove_8 (by decide) (fun h => kv_loc [0, 1, 2, 3] rfl (Kt h)) (fun h => kv_loc [0, 1, 2, 3] rfl (Kf h))
theorem bl_Cb_remove_11 {d : Nat} {B : kv_B} {Q : kv_Q} {kc ks n : Nat} {S : kv_SM} {I : kv_IM} {a0 : Nat} {v1 : Int32} {v2 : Int32} {v3 : Int32} {r1 : Nat → Option Nat} {q2 : Nat} {m3 : Nat} {r3 : Nat → Option Nat} {j4 : Nat} {q5 : Nat} {r6 : Nat → Option Nat} (hO1 : S a0 = kO 5 r1) (hr2 : r1 1 = some q2) (hA3 : S q2 = kA 4 m3 r3) (hi4 : v1 = nI j4 ∧ j4 < m3 ∧ m3 < 2 ^ 31) (he5 : r3 j4 = some q5) (hO6 : S q5 = kO 4 r6) (Kt : v2 ≤ (I q5 1) → kv_V y_Cb_remove d B Q kc ks n S I 26 [(0, .ref a0), (1, .int v1), (2, .int v2), (3, .int v3)] []) (Kf : ¬ v2 ≤ (I q5 1) → kv_V y_Cb_remove d B Q kc ks n S I 24 [(0, .ref a0), (1, .int v1), (2, .int v2), (3, .int v3)] []) : kv_V y_Cb_remove d B Q kc ks n S I 11 [(0, .ref a0), (1, .int v1), (2, .int v2), (3, .int v3)] [] := by
  refine kv_iload_n dd_Cb_remove_11 rfl ?_
  refine kv_aload_n dd_Cb_remove_12 rfl ?_
  refine kv_getR fl_Cb_18 dd_Cb_remove_13 hO1 hr2 ?_
  refine kv_iload_n dd_Cb_remove_16 rfl ?_
  refine kv_aald j4 dd_Cb_remove_17 hA3 ⟨2, _, fun _ => rfl⟩ hi4.1 hi4.2.1 hi4.2.2 he5 ?_
  refine kv_getI fl_Cb_52 dd_Cb_remove_18 hO6 ?_
  exact kv_icmp_le 26 dd_Cb_remove_21 (by decide) (fun h => kv_loc [0, 1, 2, 3] rfl (Kt h)) (fun h => kv_loc [0, 1, 2, 3] rfl (Kf h))
theorem bl_Cb_remove_24 {d : Nat} {B : kv_B} {Q : kv_Q} {kc ks n : Nat} {S : kv_SM} {I : kv_IM} {a0 : Nat} {v1 : Int32} {v2 : Int32} {v3 : Int32} (hQ : Q (some (.int ((-1)))) n S I) : kv_V y_Cb_remove d B Q kc ks n S I 24 [(0, .ref a0), (1, .int v1), (2, .int v2), (3, .int v3)] [] := by
  refine kv_iconst (v := (-1)) dd_Cb_remove_24 (by decide) ?_
  exact kv_end (v := some (.int ((-1)))) hQ ⟨dd_Cb_remove_25, .int, rfl, rfl⟩
theorem bl_Cb_remove_26 {d : Nat} {B : kv_B} {Q : kv_Q} {kc ks n : Nat} {S : kv_SM} {I : kv_IM} {a0 : Nat} {v1 : Int32} {v2 : Int32} {v3 : Int32} (Kt : v3 < 0 → kv_V y_Cb_remove d B Q kc ks n S I 45 [(0, .ref a0), (1, .int v1), (2, .int v2), (3, .int v3)] []) (Kf : ¬ v3 < 0 → kv_V y_Cb_remove d B Q kc ks n S I 30 [(0, .ref a0), (1, .int v1), (2, .int v2), (3, .int v3)] []) : kv_V y_Cb_remove d B Q kc ks n S I 26 [(0, .ref a0), (1, .int v1), (2, .int v2), (3, .int v3)] [] := by
  refine kv_iload_n dd_Cb_remove_26 rfl ?_
  exact kv_if_lt 45 dd_Cb_remove_27 (by decide) (fun h => kv_loc [0, 1, 2, 3] rfl (Kt h)) (fun h => kv_loc [0, 1, 2, 3] rfl (Kf h))
theorem bl_Cb_remove_30 {d : Nat} {B : kv_B} {Q : kv_Q} {kc ks n : Nat} {S : kv_SM} {I : kv_IM} {a0 : Nat} {v1 : Int32} {v2 : Int32} {v3 : Int32} {r1 : Nat → Option Nat} {q2 : Nat} {m3 : Nat} {r3 : Nat → Option Nat} {j4 : Nat} {q5 : Nat} {r6 : Nat → Option Nat} (hO1 : S a0 = kO 5 r1) (hr2 : r1 1 = some q2) (hA3 : S q2 = kA 4 m3 r3) (hi4 : v1 = nI j4 ∧ j4 < m3 ∧ m3 < 2 ^ 31) (he5 : r3 j4 = some q5) (hO6 : S q5 = kO 4 r6) (Kt : v3 ≤ ((I q5 1) - v2) → kv_V y_Cb_remove d B Q kc ks n S I 47 [(0, .ref a0), (1, .int v1), (2, .int v2), (3, .int v3)] []) (Kf : ¬ v3 ≤ ((I q5 1) - v2) → kv_V y_Cb_remove d B Q kc ks n S I 45 [(0, .ref a0), (1, .int v1), (2, .int v2), (3, .int v3)] []) : kv_V y_Cb_remove d B Q kc ks n S I 30 [(0, .ref a0), (1, .int v1), (2, .int v2), (3, .int v3)] [] := by
  refine kv_iload_n dd_Cb_remove_30 rfl ?_
  refine kv_aload_n dd_Cb_remove_31 rfl ?_
  refine kv_getR fl_Cb_18 dd_Cb_remove_32 hO1 hr2 ?_
  refine kv_iload_n dd_Cb_remove_35 rfl ?_
  refine kv_aald j4 dd_Cb_remove_36 hA3 ⟨2, _, fun _ => rfl⟩ hi4.1 hi4.2.1 hi4.2.2 he5 ?_
  refine kv_getI fl_Cb_52 dd_Cb_remove_37 hO6 ?_
  refine kv_iload_n dd_Cb_remove_40 rfl ?_
  refine kv_isub dd_Cb_remove_41 ?_
  exact kv_icmp_le 47 dd_Cb_remove_42 (by decide) (fun h => kv_loc [0, 1, 2, 3] rfl (Kt h)) (fun h => kv_loc [0, 1, 2, 3] rfl (Kf h))
theorem bl_Cb_remove_45 {d : Nat} {B : kv_B} {Q : kv_Q} {kc ks n : Nat} {S : kv_SM} {I : kv_IM} {a0 : Nat} {v1 : Int32} {v2 : Int32} {v3 : Int32} (hQ : Q (some (.int ((-1)))) n S I) : kv_V y_Cb_remove d B Q kc ks n S I 45 [(0, .ref a0), (1, .int v1), (2, .int v2), (3, .int v3)] [] := by
  refine kv_iconst (v := (-1)) dd_Cb_remove_45 (by decide) ?_
  exact kv_end (v := some (.int ((-1)))) hQ ⟨dd_Cb_remove_46, .int, rfl, rfl⟩
theorem bl_Cb_remove_47 {d : Nat} {B : kv_B} {Q : kv_Q} {kc ks n : Nat} {S : kv_SM} {I : kv_IM} {a0 : Nat} {v1 : Int32} {v2 : Int32} {v3 : Int32} {r1 : Nat → Option Nat} {q2 : Nat} {m3 : Nat} {r3 : Nat → Option Nat} {j4 : Nat} {q5 : Nat} {dc kcc ksc : Nat} {Qy : kv_Q} {r6 : Nat → Option Nat} (hO1 : S a0 = kO 5 r1) (hr2 : r1 1 = some q2) (hA3 : S q2 = kA 4 m3 r3) (hi4 : v1 = nI j4 ∧ j4 < m3 ∧ m3 < 2 ^ 31) (he5 : r3 j4 = some q5) (hO6 : S q5 = kO 4 r6) (hM : kv_T y_Txt_take dc kcc ksc B [.ref q5, .int v2, .int v3] n S I Qy) (hdp : dc + 1 ≤ d) (hkk : kcc ≤ kc) (hkl : ksc ≤ ks) (K : ∀ v n' S' I', Qy v n' S' I' → kv_V y_Cb_remove d B Q (kc - kcc) (ks - ksc) n' S' I' 58 [(0, .ref a0), (1, .int v1), (2, .int v2), (3, .int v3)] (v.toList ++ [])) : kv_V y_Cb_remove d B Q kc ks n S I 47 [(0, .ref a0), (1, .int v1), (2, .int v2), (3, .int v3)] [] := by
  refine kv_aload_n dd_Cb_remove_47 rfl ?_
  refine kv_getR fl_Cb_18 dd_Cb_remove_48 hO1 hr2 ?_
  refine kv_iload_n dd_Cb_remove_51 rfl ?_
  refine kv_aald j4 dd_Cb_remove_52 hA3 ⟨2, _, fun _ => rfl⟩ hi4.1 hi4.2.1 hi4.2.2 he5 ?_
  refine kv_iload_n dd_Cb_remove_53 rfl ?_
  refine kv_iload_n dd_Cb_remove_54 rfl ?_
  exact kv_callV [.int v2, .int v3] [] ls_Cb_63 hO6 hM dd_Cb_remove_55 rfl hdp (Nat.le_of_ble_eq_true rfl) hkk hkl (fun v n' S' I' hv => kv_loc [0, 1, 2, 3] rfl (K v n' S' I' hv))
theorem bl_Cb_remove_58 {d : Nat} {B : kv_B} {Q : kv_Q} {kc ks n : Nat} {S : kv_SM} {I : kv_IM} {a0 : Nat} {v1 : Int32} {v2 : Int32} {v3 : Int32} {t0 : Int32} (hQ : Q (some (.int t0)) n S I) : kv_V y_Cb_remove d B Q kc ks n S I 58 [(0, .ref a0), (1, .int v1), (2, .int v2), (3, .int v3)] [.int t0] := by
  exact kv_end (v := some (.int t0)) hQ ⟨dd_Cb_remove_58, .int, rfl, rfl⟩
theorem bl_Cb_copy_0 {d : Nat} {B : kv_B} {Q : kv_Q} {kc ks n : Nat} {S : kv_SM} {I : kv_IM} {a0 : Nat} {v1 : Int32} {v2 : Int32} {dc kcc ksc : Nat} {Qy : kv_Q} (hM : kv_T y_Cb_isText dc kcc ksc B [.int v1] n S I Qy) (hdp : dc + 1 ≤ d) (hkk : kcc ≤ kc) (hkl : ksc ≤ ks) (K : ∀ v n' S' I', Qy v n' S' I' → kv_V y_Cb_copy d B Q (kc - kcc) (ks - ksc) n' S' I' 4 [(0, .ref a0), (1, .int v1), (2, .int v2)] (v.toList ++ [])) : kv_V y_Cb_copy d B Q kc ks n S I 0 [(0, .ref a0), (1, .int v1), (2, .int v2)] [] := by
  refine kv_iload_n dd_Cb_copy_0 rfl ?_
  exact kv_callS [.int v1] [] ls_Cb_45 hM dd_Cb_copy_1 rfl hdp (Nat.le_of_ble_eq_true rfl) hkk hkl (fun v n' S' I' hv => kv_loc [0, 1, 2] rfl (K v n' S' I' hv))
theorem bl_Cb_copy_4 {d : Nat} {B : kv_B} {Q : kv_Q} {kc ks n : Nat} {S : kv_SM} {I : kv_IM} {a0 : Nat} {v1 : Int32} {v2 : Int32} {t0 : Int32} (Kt : t0 = 0 → kv_V y_Cb_copy d B Q kc ks n S I 14 [(0, .ref a0), (1, .int v1), (2, .int v2)] []) (Kf : ¬ t0 = 0 → kv_V y_Cb_copy d B Q kc ks n S I 7 [(0, .ref a0), (1, .int v1), (2, .int v2)] []) : kv_V y_Cb_copy d B Q kc ks n S I 4 [(0, .ref a0), (1, .int v1), (2, .int v2)] [.int t0] := by
  exact kv_if_eq 14 dd_Cb_copy_4 (by decide) (fun h => kv_loc [0, 1, 2] rfl (Kt h)) (fun h => kv_loc [0, 1, 2] rfl (Kf h))
theorem bl_Cb_copy_7 {d : Nat} {B : kv_B} {Q : kv_Q} {kc ks n : Nat} {S : kv_SM} {I : kv_IM} {a0 : Nat} {v1 : Int32} {v2 : Int32} {dc kcc ksc : Nat} {Qy : kv_Q} (hM : kv_T y_Cb_isText dc kcc ksc B [.int v2] n S I Qy) (hdp : dc + 1 ≤ d) (hkk : kcc ≤ kc) (hkl : ksc ≤ ks) (K : ∀ v n' S' I', Qy v n' S' I' → kv_V y_Cb_copy d B Q (kc - kcc) (ks - ksc) n' S' I' 11 [(0, .ref a0), (1, .int v1), (2, .int v2)] (v.toList ++ [])) : kv_V y_Cb_copy d B Q kc ks n S I 7 [(0, .ref a0), (1, .int v1), (2, .int v2)] [] := by
  refine kv_iload_n dd_Cb_copy_7 rfl ?_
  exact kv_callS [.int v2] [] ls_Cb_45 hM dd_Cb_copy_8 rfl hdp (Nat.le_of_ble_eq_true rfl) hkk hkl (fun v n' S' I' hv => kv_loc [0, 1, 2] rfl (K v n' S' I' hv))
theorem bl_Cb_copy_11 {d : Nat} {B : kv_B} {Q : kv_Q} {kc ks n : Nat} {S : kv_SM} {I : kv_IM} {a0 : Nat} {v1 : Int32} {v2 : Int32} {t0 : Int32} (Kt : ¬ t0 = 0 → kv_V y_Cb_copy d B Q kc ks n S I 16 [(0, .ref a0), (1, .int v1), (2, .int v2)] []) (Kf : t0 = 0 → kv_V y_Cb_copy d B Q kc ks n S I 14 [(0, .ref a0), (1, .int v1), (2, .int v2)] []) : kv_V y_Cb_copy d B Q kc ks n S I 11 [(0, .ref a0), (1, .int v1), (2, .int v2)] [.int t0] := by
  exact kv_if_ne 16 dd_Cb_copy_11 (by decide) (fun h => kv_loc [0, 1, 2] rfl (Kt h)) (fun h => kv_loc [0, 1, 2] rfl (Kf h))
theorem bl_Cb_copy_14 {d : Nat} {B : kv_B} {Q : kv_Q} {kc ks n : Nat} {S : kv_SM} {I : kv_IM} {a0 : Nat} {v1 : Int32} {v2 : Int32} (hQ : Q (some (.int ((-1)))) n S I) : kv_V y_Cb_copy d B Q kc ks n S I 14 [(0, .ref a0), (1, .int v1), (2, .int v2)] [] := by
  refine kv_iconst (v := (-1)) dd_Cb_copy_14 (by decide) ?_
  exact kv_end (v := some (.int ((-1)))) hQ ⟨dd_Cb_copy_15, .int, rfl, rfl⟩
theorem bl_Cb_copy_16 {d : Nat} {B : kv_B} {Q : kv_Q} {kc ks n : Nat} {S : kv_SM} {I : kv_IM} {a0 : Nat} {v1 : Int32} {v2 : Int32} {r1 : Nat → Option Nat} {q2 : Nat} {m3 : Nat} {r3 : Nat → Option Nat} {j4 : Nat} {q5 : Nat} {j6 : Nat} {q7 : Nat} {dc kcc ksc : Nat} {Qy : kv_Q} {r8 : Nat → Option Nat} (hO1 : S a0 = kO 5 r1) (hr2 : r1 1 = some q2) (hA3 : S q2 = kA 4 m3 r3) (hi4 : v1 = nI j4 ∧ j4 < m3 ∧ m3 < 2 ^ 31) (he5 : r3 j4 = some q5) (hi6 : v2 = nI j6 ∧ j6 < m3 ∧ m3 < 2 ^ 31) (he7 : r3 j6 = some q7) (hO8 : S q5 = kO 4 r8) (hM : kv_T y_Txt_become dc kcc ksc B [.ref q5, .ref q7] n S I Qy) (hdp : dc + 1 ≤ d) (hkk : kcc ≤ kc) (hkl : ksc ≤ ks) (K : ∀ v n' S' I', Qy v n' S' I' → kv_V y_Cb_copy d B Q (kc - kcc) (ks - ksc) n' S' I' 31 [(0, .ref a0), (1, .int v1), (2, .int v2)] (v.toList ++ [])) : kv_V y_Cb_copy d B Q kc ks n S I 16 [(0, .ref a0), (1, .int v1), (2, .int v2)] [] := by
  refine kv_aload_n dd_Cb_copy_16 rfl ?_
  refine kv_getR fl_Cb_18 dd_Cb_copy_17 hO1 hr2 ?_
  refine kv_iload_n dd_Cb_copy_20 rfl ?_
  refine kv_aald j4 dd_Cb_copy_21 hA3 ⟨2, _, fun _ => rfl⟩ hi4.1 hi4.2.1 hi4.2.2 he5 ?_
  refine kv_aload_n dd_Cb_copy_22 rfl ?_
  refine kv_getR fl_Cb_18 dd_Cb_copy_23 hO1 hr2 ?_
  refine kv_iload_n dd_Cb_copy_26 rfl ?_
  refine kv_aald j6 dd_Cb_copy_27 hA3 ⟨2, _, fun _ => rfl⟩ hi6.1 hi6.2.1 hi6.2.2 he7 ?_
  exact kv_callV [.ref q7] [] ls_Cb_65 hO8 hM dd_Cb_copy_28 rfl hdp (Nat.le_of_ble_eq_true rfl) hkk hkl (fun v n' S' I' hv => kv_loc [0, 1, 2] rfl (K v n' S' I' hv))
theorem bl_Cb_copy_31 {d : Nat} {B : kv_B} {Q : kv_Q} {kc ks n : Nat} {S : kv_SM} {I : kv_IM} {a0 : Nat} {v1 : Int32} {v2 : Int32} {t0 : Int32} (hQ : Q (some (.int t0)) n S I) : kv_V y_Cb_copy d B Q kc ks n S I 31 [(0, .ref a0), (1, .int v1), (2, .int v2)] [.int t0] := by
  exact kv_end (v := some (.int t0)) hQ ⟨dd_Cb_copy_31, .int, rfl, rfl⟩
theorem bl_Cb_size_0 {d : Nat} {B : kv_B} {Q : kv_Q} {kc ks n : Nat} {S : kv_SM} {I : kv_IM} {a0 : Nat} {v1 : Int32} {dc kcc ksc : Nat} {Qy : kv_Q} (hM : kv_T y_Cb_isText dc kcc ksc B [.int v1] n S I Qy) (hdp : dc + 1 ≤ d) (hkk : kcc ≤ kc) (hkl : ksc ≤ ks) (K : ∀ v n' S' I', Qy v n' S' I' → kv_V y_Cb_size d B Q (kc - kcc) (ks - ksc) n' S' I' 4 [(0, .ref a0), (1, .int v1)] (v.toList ++ [])) : kv_V y_Cb_size d B Q kc ks n S I 0 [(0, .ref a0), (1, .int v1)] [] := by
  refine kv_iload_n dd_Cb_size_0 rfl ?_
  exact kv_callS [.int v1] [] ls_Cb_45 hM dd_Cb_size_1 rfl hdp (Nat.le_of_ble_eq_true rfl) hkk hkl (fun v n' S' I' hv => kv_loc [0, 1] rfl (K v n' S' I' hv))
theorem bl_Cb_size_4 {d : Nat} {B : kv_B} {Q : kv_Q} {kc ks n : Nat} {S : kv_SM} {I : kv_IM} {a0 : Nat} {v1 : Int32} {t0 : Int32} (Kt : t0 = 0 → kv_V y_Cb_size d B Q kc ks n S I 19 [(0, .ref a0), (1, .int v1)] []) (Kf : ¬ t0 = 0 → kv_V y_Cb_size d B Q kc ks n S I 7 [(0, .ref a0), (1, .int v1)] []) : kv_V y_Cb_size d B Q kc ks n S I 4 [(0, .ref a0), (1, .int v1)] [.int t0] := by
  exact kv_if_eq 19 dd_Cb_size_4 (by decide) (fun h => kv_loc [0, 1] rfl (Kt h)) (fun h => kv_loc [0, 1] rfl (Kf h))
theorem bl_Cb_size_7 {d : Nat} {B : kv_B} {Q : kv_Q} {kc ks n : Nat} {S : kv_SM} {I : kv_IM} {a0 : Nat} {v1 : Int32} {r1 : Nat → Option Nat} {q2 : Nat} {m3 : Nat} {r3 : Nat → Option Nat} {j4 : Nat} {q5 : Nat} {r6 : Nat → Option Nat} (hO1 : S a0 = kO 5 r1) (hr2 : r1 1 = some q2) (hA3 : S q2 = kA 4 m3 r3) (hi4 : v1 = nI j4 ∧ j4 < m3 ∧ m3 < 2 ^ 31) (he5 : r3 j4 = some q5) (hO6 : S q5 = kO 4 r6) (K : kv_V y_Cb_size d B Q kc ks n S I 20 [(0, .ref a0), (1, .int v1)] [.int (I q5 1)]) : kv_V y_Cb_size d B Q kc ks n S I 7 [(0, .ref a0), (1, .int v1)] [] := by
  refine kv_aload_n dd_Cb_size_7 rfl ?_
  refine kv_getR fl_Cb_18 dd_Cb_size_8 hO1 hr2 ?_
  refine kv_iload_n dd_Cb_size_11 rfl ?_
  refine kv_aald j4 dd_Cb_size_12 hA3 ⟨2, _, fun _ => rfl⟩ hi4.1 hi4.2.1 hi4.2.2 he5 ?_
  refine kv_getI fl_Cb_52 dd_Cb_size_13 hO6 ?_
  refine kv_goto 20 dd_Cb_size_16 (by decide) ?_
  exact kv_loc [0, 1] rfl K
theorem bl_Cb_size_19 {d : Nat} {B : kv_B} {Q : kv_Q} {kc ks n : Nat} {S : kv_SM} {I : kv_IM} {a0 : Nat} {v1 : Int32} (K : kv_V y_Cb_size d B Q kc ks n S I 20 [(0, .ref a0), (1, .int v1)] [.int ((-1))]) : kv_V y_Cb_size d B Q kc ks n S I 19 [(0, .ref a0), (1, .int v1)] [] := by
  refine kv_iconst (v := (-1)) dd_Cb_size_19 (by decide) ?_
  exact kv_loc [0, 1] rfl K
theorem bl_Cb_size_20 {d : Nat} {B : kv_B} {Q : kv_Q} {kc ks n : Nat} {S : kv_SM} {I : kv_IM} {a0 : Nat} {v1 : Int32} {t0 : Int32} (hQ : Q (some (.int t0)) n S I) : kv_V y_Cb_size d B Q kc ks n S I 20 [(0, .ref a0), (1, .int v1)] [.int t0] := by
  exact kv_end (v := some (.int t0)) hQ ⟨dd_Cb_size_20, .int, rfl, rfl⟩
theorem bl_Cb_byteAt_0 {d : Nat} {B : kv_B} {Q : kv_Q} {kc ks n : Nat} {S : kv_SM} {I : kv_IM} {a0 : Nat} {v1 : Int32} {v2 : Int32} {dc kcc ksc : Nat} {Qy : kv_Q} {r1 : Nat → Option Nat} (hO1 : S a0 = kO 5 r1) (hM : kv_T y_Cb_hasByte dc kcc ksc B [.ref a0, .int v1, .int v2] n S I Qy) (hdp : dc + 1 ≤ d) (hkk : kcc ≤ kc) (hkl : ksc ≤ ks) (K : ∀ v n' S' I', Qy v n' S' I' → kv_V y_Cb_byteAt d B Q (kc - kcc) (ks - ksc) n' S' I' 6 [(0, .ref a0), (1, .int v1), (2, .int v2)] (v.toList ++ [])) : kv_V y_Cb_byteAt d B Q kc ks n S I 0 [(0, .ref a0), (1, .int v1), (2, .int v2)] [] := by
  refine kv_aload_n dd_Cb_byteAt_0 rfl ?_
  refine kv_iload_n dd_Cb_byteAt_1 rfl ?_
  refine kv_iload_n dd_Cb_byteAt_2 rfl ?_
  exact kv_callV [.int v1, .int v2] [] ls_Cb_69 hO1 hM dd_Cb_byteAt_3 rfl hdp (Nat.le_of_ble_eq_true rfl) hkk hkl (fun v n' S' I' hv => kv_loc [0, 1, 2] rfl (K v n' S' I' hv))
theorem bl_Cb_byteAt_6 {d : Nat} {B : kv_B} {Q : kv_Q} {kc ks n : Nat} {S : kv_SM} {I : kv_IM} {a0 : Nat} {v1 : Int32} {v2 : Int32} {t0 : Int32} (Kt : t0 = 0 → kv_V y_Cb_byteAt d B Q kc ks n S I 26 [(0, .ref a0), (1, .int v1), (2, .int v2)] []) (Kf : ¬ t0 = 0 → kv_V y_Cb_byteAt d B Q kc ks n S I 9 [(0, .ref a0), (1, .int v1), (2, .int v2)] []) : kv_V y_Cb_byteAt d B Q kc ks n S I 6 [(0, .ref a0), (1, .int v1), (2, .int v2)] [.int t0] := by
  exact kv_if_eq 26 dd_Cb_byteAt_6 (by decide) (fun h => kv_loc [0, 1, 2] rfl (Kt h)) (fun h => kv_loc [0, 1, 2] rfl (Kf h))
theorem bl_Cb_byteAt_9 {d : Nat} {B : kv_B} {Q : kv_Q} {kc ks n : Nat} {S : kv_SM} {I : kv_IM} {a0 : Nat} {v1 : Int32} {v2 : Int32} {r1 : Nat → Option Nat} {q2 : Nat} {m3 : Nat} {r3 : Nat → Option Nat} {j4 : Nat} {q5 : Nat} {r6 : Nat → Option Nat} {q7 : Nat} {r8 : Nat → Option Nat} {q9 : Nat} {m10 : Nat} {j11 : Nat} (hO1 : S a0 = kO 5 r1) (hr2 : r1 1 = some q2) (hA3 : S q2 = kA 4 m3 r3) (hi4 : v1 = nI j4 ∧ j4 < m3 ∧ m3 < 2 ^ 31) (he5 : r3 j4 = some q5) (hO6 : S q5 = kO 4 r6) (hr7 : r6 0 = some q7) (hO8 : S q7 = kO 0 r8) (hr9 : r8 0 = some q9) (hA10 : S q9 = kI m10) (hi11 : v2 = nI j11 ∧ j11 < m10 ∧ m10 < 2 ^ 31) (K : kv_V y_Cb_byteAt d B Q kc ks n S I 27 [(0, .ref a0), (1, .int v1), (2, .int v2)] [.int (I q9 j11)]) : kv_V y_Cb_byteAt d B Q kc ks n S I 9 [(0, .ref a0), (1, .int v1), (2, .int v2)] [] := by
  refine kv_aload_n dd_Cb_byteAt_9 rfl ?_
  refine kv_getR fl_Cb_18 dd_Cb_byteAt_10 hO1 hr2 ?_
  refine kv_iload_n dd_Cb_byteAt_13 rfl ?_
  refine kv_aald j4 dd_Cb_byteAt_14 hA3 ⟨2, _, fun _ => rfl⟩ hi4.1 hi4.2.1 hi4.2.2 he5 ?_
  refine kv_getR fl_Cb_73 dd_Cb_byteAt_15 hO6 hr7 ?_
  refine kv_getR fl_Cb_77 dd_Cb_byteAt_18 hO8 hr9 ?_
  refine kv_iload_n dd_Cb_byteAt_21 rfl ?_
  refine kv_iald j11 dd_Cb_byteAt_22 hA10 hi11.1 hi11.2.1 hi11.2.2 ?_
  refine kv_goto 27 dd_Cb_byteAt_23 (by decide) ?_
  exact kv_loc [0, 1, 2] rfl K
theorem bl_Cb_byteAt_26 {d : Nat} {B : kv_B} {Q : kv_Q} {kc ks n : Nat} {S : kv_SM} {I : kv_IM} {a0 : Nat} {v1 : Int32} {v2 : Int32} (K : kv_V y_Cb_byteAt d B Q kc ks n S I 27 [(0, .ref a0), (1, .int v1), (2, .int v2)] [.int ((-1))]) : kv_V y_Cb_byteAt d B Q kc ks n S I 26 [(0, .ref a0), (1, .int v1), (2, .int v2)] [] := by
  refine kv_iconst (v := (-1)) dd_Cb_byteAt_26 (by decide) ?_
  exact kv_loc [0, 1, 2] rfl K
theorem bl_Cb_byteAt_27 {d : Nat} {B : kv_B} {Q : kv_Q} {kc ks n : Nat} {S : kv_SM} {I : kv_IM} {a0 : Nat} {v1 : Int32} {v2 : Int32} {t0 : Int32} (hQ : Q (some (.int t0)) n S I) : kv_V y_Cb_byteAt d B Q kc ks n S I 27 [(0, .ref a0), (1, .int v1), (2, .int v2)] [.int t0] := by
  exact kv_end (v := some (.int t0)) hQ ⟨dd_Cb_byteAt_27, .int, rfl, rfl⟩
theorem bl_Cb_hasByte_0 {d : Nat} {B : kv_B} {Q : kv_Q} {kc ks n : Nat} {S : kv_SM} {I : kv_IM} {a0 : Nat} {v1 : Int32} {v2 : Int32} {dc kcc ksc : Nat} {Qy : kv_Q} (hM : kv_T y_Cb_isText dc kcc ksc B [.int v1] n S I Qy) (hdp : dc + 1 ≤ d) (hkk : kcc ≤ kc) (hkl : ksc ≤ ks) (K : ∀ v n' S' I', Qy v n' S' I' → kv_V y_Cb_hasByte d B Q (kc - kcc) (ks - ksc) n' S' I' 4 [(0, .ref a0), (1, .int v1), (2, .int v2)] (v.toList ++ [])) : kv_V y_Cb_hasByte d B Q kc ks n S I 0 [(0, .ref a0), (1, .int v1), (2, .int v2)] [] := by
  refine kv_iload_n dd_Cb_hasByte_0 rfl ?_
  exact kv_callS [.int v1] [] ls_Cb_45 hM dd_Cb_hasByte_1 rfl hdp (Nat.le_of_ble_eq_true rfl) hkk hkl (fun v n' S' I' hv => kv_loc [0, 1, 2] rfl (K v n' S' I' hv))
theorem bl_Cb_hasByte_4 {d : Nat} {B : kv_B} {Q : kv_Q} {kc ks n : Nat} {S : kv_SM} {I : kv_IM} {a0 : Nat} {v1 : Int32} {v2 : Int32} {t0 : Int32} (Kt : t0 = 0 → kv_V y_Cb_hasByte d B Q kc ks n S I 28 [(0, .ref a0), (1, .int v1), (2, .int v2)] []) (Kf : ¬ t0 = 0 → kv_V y_Cb_hasByte d B Q kc ks n S I 7 [(0, .ref a0), (1, .int v1), (2, .int v2)] []) : kv_V y_Cb_hasByte d B Q kc ks n S I 4 [(0, .ref a0), (1, .int v1), (2, .int v2)] [.int t0] := by
  exact kv_if_eq 28 dd_Cb_hasByte_4 (by decide) (fun h => kv_loc [0, 1, 2] rfl (Kt h)) (fun h => kv_loc [0, 1, 2] rfl (Kf h))
theorem bl_Cb_hasByte_7 {d : Nat} {B : kv_B} {Q : kv_Q} {kc ks n : Nat} {S : kv_SM} {I : kv_IM} {a0 : Nat} {v1 : Int32} {v2 : Int32} (Kt : v2 < 0 → kv_V y_Cb_hasByte d B Q kc ks n S I 28 [(0, .ref a0), (1, .int v1), (2, .int v2)] []) (Kf : ¬ v2 < 0 → kv_V y_Cb_hasByte d B Q kc ks n S I 11 [(0, .ref a0), (1, .int v1), (2, .int v2)] []) : kv_V y_Cb_hasByte d B Q kc ks n S I 7 [(0, .ref a0), (1, .int v1), (2, .int v2)] [] := by
  refine kv_iload_n dd_Cb_hasByte_7 rfl ?_
  exact kv_if_lt 28 dd_Cb_hasByte_8 (by decide) (fun h => kv_loc [0, 1, 2] rfl (Kt h)) (fun h => kv_loc [0, 1, 2] rfl (Kf h))
theorem bl_Cb_hasByte_11 {d : Nat} {B : kv_B} {Q : kv_Q} {kc ks n : Nat} {S : kv_SM} {I : kv_IM} {a0 : Nat} {v1 : Int32} {v2 : Int32} {r1 : Nat → Option Nat} {q2 : Nat} {m3 : Nat} {r3 : Nat → Option Nat} {j4 : Nat} {q5 : Nat} {r6 : Nat → Option Nat} (hO1 : S a0 = kO 5 r1) (hr2 : r1 1 = some q2) (hA3 : S q2 = kA 4 m3 r3) (hi4 : v1 = nI j4 ∧ j4 < m3 ∧ m3 < 2 ^ 31) (he5 : r3 j4 = some q5) (hO6 : S q5 = kO 4 r6) (Kt : (I q5 1) ≤ v2 → kv_V y_Cb_hasByte d B Q kc ks n S I 28 [(0, .ref a0), (1, .int v1), (2, .int v2)] []) (Kf : ¬ (I q5 1) ≤ v2 → kv_V y_Cb_hasByte d B Q kc ks n S I 24 [(0, .ref a0), (1, .int v1), (2, .int v2)] []) : kv_V y_Cb_hasByte d B Q kc ks n S I 11 [(0, .ref a0), (1, .int v1), (2, .int v2)] [] := by
  refine kv_iload_n dd_Cb_hasByte_11 rfl ?_
  refine kv_aload_n dd_Cb_hasByte_12 rfl ?_
  refine kv_getR fl_Cb_18 dd_Cb_hasByte_13 hO1 hr2 ?_
  refine kv_iload_n dd_Cb_hasByte_16 rfl ?_
  refine kv_aald j4 dd_Cb_hasByte_17 hA3 ⟨2, _, fun _ => rfl⟩ hi4.1 hi4.2.1 hi4.2.2 he5 ?_
  refine kv_getI fl_Cb_52 dd_Cb_hasByte_18 hO6 ?_
  exact kv_icmp_ge 28 dd_Cb_hasByte_21 (by decide) (fun h => kv_loc [0, 1, 2] rfl (Kt h)) (fun h => kv_loc [0, 1, 2] rfl (Kf h))
theorem bl_Cb_hasByte_24 {d : Nat} {B : kv_B} {Q : kv_Q} {kc ks n : Nat} {S : kv_SM} {I : kv_IM} {a0 : Nat} {v1 : Int32} {v2 : Int32} (K : kv_V y_Cb_hasByte d B Q kc ks n S I 29 [(0, .ref a0), (1, .int v1), (2, .int v2)] [.int 1]) : kv_V y_Cb_hasByte d B Q kc ks n S I 24 [(0, .ref a0), (1, .int v1), (2, .int v2)] [] := by
  refine kv_iconst (v := 1) dd_Cb_hasByte_24 (by decide) ?_
  refine kv_goto 29 dd_Cb_hasByte_25 (by decide) ?_
  exact kv_loc [0, 1, 2] rfl K
theorem bl_Cb_hasByte_28 {d : Nat} {B : kv_B} {Q : kv_Q} {kc ks n : Nat} {S : kv_SM} {I : kv_IM} {a0 : Nat} {v1 : Int32} {v2 : Int32} (K : kv_V y_Cb_hasByte d B Q kc ks n S I 29 [(0, .ref a0), (1, .int v1), (2, .int v2)] [.int 0]) : kv_V y_Cb_hasByte d B Q kc ks n S I 28 [(0, .ref a0), (1, .int v1), (2, .int v2)] [] := by
  refine kv_iconst (v := 0) dd_Cb_hasByte_28 (by decide) ?_
  exact kv_loc [0, 1, 2] rfl K
theorem bl_Cb_hasByte_29 {d : Nat} {B : kv_B} {Q : kv_Q} {kc ks n : Nat} {S : kv_SM} {I : kv_IM} {a0 : Nat} {v1 : Int32} {v2 : Int32} {t0 : Int32} (hb : narrow .boolean (.int t0) = .int t0) (hQ : Q (some (.int t0)) n S I) : kv_V y_Cb_hasByte d B Q kc ks n S I 29 [(0, .ref a0), (1, .int v1), (2, .int v2)] [.int t0] := by
  exact kv_end (v := some (.int t0)) hQ ⟨dd_Cb_hasByte_29, .boolean, rfl, hb⟩
theorem bl_Cb_blocks_0 {d : Nat} {B : kv_B} {Q : kv_Q} {kc ks n : Nat} {S : kv_SM} {I : kv_IM} {a0 : Nat} {v1 : Int32} {dc kcc ksc : Nat} {Qy : kv_Q} (hM : kv_T y_Cb_isText dc kcc ksc B [.int v1] n S I Qy) (hdp : dc + 1 ≤ d) (hkk : kcc ≤ kc) (hkl : ksc ≤ ks) (K : ∀ v n' S' I', Qy v n' S' I' → kv_V y_Cb_blocks d B Q (kc - kcc) (ks - ksc) n' S' I' 4 [(0, .ref a0), (1, .int v1)] (v.toList ++ [])) : kv_V y_Cb_blocks d B Q kc ks n S I 0 [(0, .ref a0), (1, .int v1)] [] := by
  refine kv_iload_n dd_Cb_blocks_0 rfl ?_
  exact kv_callS [.int v1] [] ls_Cb_45 hM dd_Cb_blocks_1 rfl hdp (Nat.le_of_ble_eq_true rfl) hkk hkl (fun v n' S' I' hv => kv_loc [0, 1] rfl (K v n' S' I' hv))
theorem bl_Cb_blocks_4 {d : Nat} {B : kv_B} {Q : kv_Q} {kc ks n : Nat} {S : kv_SM} {I : kv_IM} {a0 : Nat} {v1 : Int32} {t0 : Int32} (Kt : t0 = 0 → kv_V y_Cb_blocks d B Q kc ks n S I 18 [(0, .ref a0), (1, .int v1)] []) (Kf : ¬ t0 = 0 → kv_V y_Cb_blocks d B Q kc ks n S I 7 [(0, .ref a0), (1, .int v1)] []) : kv_V y_Cb_blocks d B Q kc ks n S I 4 [(0, .ref a0), (1, .int v1)] [.int t0] := by
  exact kv_if_eq 18 dd_Cb_blocks_4 (by decide) (fun h => kv_loc [0, 1] rfl (Kt h)) (fun h => kv_loc [0, 1] rfl (Kf h))
theorem bl_Cb_blocks_7 {d : Nat} {B : kv_B} {Q : kv_Q} {kc ks n : Nat} {S : kv_SM} {I : kv_IM} {a0 : Nat} {v1 : Int32} {dc kcc ksc : Nat} {Qy : kv_Q} {r1 : Nat → Option Nat} (hO1 : S a0 = kO 5 r1) (hM : kv_T y_Cb_cutRow dc kcc ksc B [.ref a0, .int v1] n S I Qy) (hdp : dc + 1 ≤ d) (hkk : kcc ≤ kc) (hkl : ksc ≤ ks) (K : ∀ v n' S' I', Qy v n' S' I' → kv_V y_Cb_blocks d B Q (kc - kcc) (ks - ksc) n' S' I' 12 [(0, .ref a0), (1, .int v1)] (v.toList ++ [])) : kv_V y_Cb_blocks d B Q kc ks n S I 7 [(0, .ref a0), (1, .int v1)] [] := by
  refine kv_aload_n dd_Cb_blocks_7 rfl ?_
  refine kv_iload_n dd_Cb_blocks_8 rfl ?_
  exact kv_callV [.int v1] [] ls_Cb_83 hO1 hM dd_Cb_blocks_9 rfl hdp (Nat.le_of_ble_eq_true rfl) hkk hkl (fun v n' S' I' hv => kv_loc [0, 1] rfl (K v n' S' I' hv))
theorem bl_Cb_blocks_12 {d : Nat} {B : kv_B} {Q : kv_Q} {kc ks n : Nat} {S : kv_SM} {I : kv_IM} {a0 : Nat} {v1 : Int32} {t0 : Nat} {r1 : Nat → Option Nat} (hO1 : S t0 = kO 0 r1) (K : kv_V y_Cb_blocks d B Q kc ks n S I 19 [(0, .ref a0), (1, .int v1)] [.int (I t0 5)]) : kv_V y_Cb_blocks d B Q kc ks n S I 12 [(0, .ref a0), (1, .int v1)] [.ref t0] := by
  refine kv_getI fl_Cb_87 dd_Cb_blocks_12 hO1 ?_
  refine kv_goto 19 dd_Cb_blocks_15 (by decide) ?_
  exact kv_loc [0, 1] rfl K
theorem bl_Cb_blocks_18 {d : Nat} {B : kv_B} {Q : kv_Q} {kc ks n : Nat} {S : kv_SM} {I : kv_IM} {a0 : Nat} {v1 : Int32} (K : kv_V y_Cb_blocks d B Q kc ks n S I 19 [(0, .ref a0), (1, .int v1)] [.int ((-1))]) : kv_V y_Cb_blocks d B Q kc ks n S I 18 [(0, .ref a0), (1, .int v1)] [] := by
  refine kv_iconst (v := (-1)) dd_Cb_blocks_18 (by decide) ?_
  exact kv_loc [0, 1] rfl K
theorem bl_Cb_blocks_19 {d : Nat} {B : kv_B} {Q : kv_Q} {kc ks n : Nat} {S : kv_SM} {I : kv_IM} {a0 : Nat} {v1 : Int32} {t0 : Int32} (hQ : Q (some (.int t0)) n S I) : kv_V y_Cb_blocks d B Q kc ks n S I 19 [(0, .ref a0), (1, .int v1)] [.int t0] := by
  exact kv_end (v := some (.int t0)) hQ ⟨dd_Cb_blocks_19, .int, rfl, rfl⟩
theorem bl_Cb_cutRow_0 {d : Nat} {B : kv_B} {Q : kv_Q} {kc ks n : Nat} {S : kv_SM} {I : kv_IM} {a0 : Nat} {v1 : Int32} {r1 : Nat → Option Nat} {q2 : Nat} {m3 : Nat} {r3 : Nat → Option Nat} {j4 : Nat} {q5 : Nat} {q6 : Nat} {dc kcc ksc : Nat} {Qy : kv_Q} {r7 : Nat → Option Nat} (hO1 : S a0 = kO 5 r1) (hr2 : r1 1 = some q2) (hA3 : S q2 = kA 4 m3 r3) (hi4 : v1 = nI j4 ∧ j4 < m3 ∧ m3 < 2 ^ 31) (he5 : r3 j4 = some q5) (hr6 : r1 0 = some q6) (hO7 : S q5 = kO 4 r7) (hM : kv_T y_Txt_cutBy dc kcc ksc B [.ref q5, .ref q6] n S I Qy) (hdp : dc + 1 ≤ d) (hkk : kcc ≤ kc) (hkl : ksc ≤ ks) (K : ∀ v n' S' I', Qy v n' S' I' → kv_V y_Cb_cutRow d B Q (kc - kcc) (ks - ksc) n' S' I' 13 [(0, .ref a0), (1, .int v1)] (v.toList ++ [])) : kv_V y_Cb_cutRow d B Q kc ks n S I 0 [(0, .ref a0), (1, .int v1)] [] := by
  refine kv_aload_n dd_Cb_cutRow_0 rfl ?_
  refine kv_getR fl_Cb_18 dd_Cb_cutRow_1 hO1 hr2 ?_
  refine kv_iload_n dd_Cb_cutRow_4 rfl ?_
  refine kv_aald j4 dd_Cb_cutRow_5 hA3 ⟨2, _, fun _ => rfl⟩ hi4.1 hi4.2.1 hi4.2.2 he5 ?_
  refine kv_aload_n dd_Cb_cutRow_6 rfl ?_
  refine kv_getR fl_Cb_10 dd_Cb_cutRow_7 hO1 hr6 ?_
  exact kv_callV [.ref q6] [] ls_Cb_179 hO7 hM dd_Cb_cutRow_10 rfl hdp (Nat.le_of_ble_eq_true rfl) hkk hkl (fun v n' S' I' hv => kv_loc [0, 1] rfl (K v n' S' I' hv))
theorem bl_Cb_cutRow_13 {d : Nat} {B : kv_B} {Q : kv_Q} {kc ks n : Nat} {S : kv_SM} {I : kv_IM} {a0 : Nat} {v1 : Int32} {r1 : Nat → Option Nat} {q2 : Nat} {m3 : Nat} {r3 : Nat → Option Nat} {j4 : Nat} {q5 : Nat} {r6 : Nat → Option Nat} {q7 : Nat} (hO1 : S a0 = kO 5 r1) (hr2 : r1 1 = some q2) (hA3 : S q2 = kA 4 m3 r3) (hi4 : v1 = nI j4 ∧ j4 < m3 ∧ m3 < 2 ^ 31) (he5 : r3 j4 = some q5) (hO6 : S q5 = kO 4 r6) (hr7 : r6 0 = some q7) (hQ : Q (some (.ref q7)) n S I) : kv_V y_Cb_cutRow d B Q kc ks n S I 13 [(0, .ref a0), (1, .int v1)] [] := by
  refine kv_aload_n dd_Cb_cutRow_13 rfl ?_
  refine kv_getR fl_Cb_18 dd_Cb_cutRow_14 hO1 hr2 ?_
  refine kv_iload_n dd_Cb_cutRow_17 rfl ?_
  refine kv_aald j4 dd_Cb_cutRow_18 hA3 ⟨2, _, fun _ => rfl⟩ hi4.1 hi4.2.1 hi4.2.2 he5 ?_
  refine kv_getR fl_Cb_73 dd_Cb_cutRow_19 hO6 hr7 ?_
  exact kv_end (v := some (.ref q7)) hQ ⟨dd_Cb_cutRow_22, Or.inl ⟨_, rfl⟩⟩
theorem bl_Cb_block_0 {d : Nat} {B : kv_B} {Q : kv_Q} {kc ks n : Nat} {S : kv_SM} {I : kv_IM} {a0 : Nat} {v1 : Int32} {v2 : Int32} {v3 : Int32} {dc kcc ksc : Nat} {Qy : kv_Q} {r1 : Nat → Option Nat} (hO1 : S a0 = kO 5 r1) (hM : kv_T y_Cb_hasBlock dc kcc ksc B [.ref a0, .int v1, .int v2] n S I Qy) (hdp : dc + 1 ≤ d) (hkk : kcc ≤ kc) (hkl : ksc ≤ ks) (K : ∀ v n' S' I', Qy v n' S' I' → kv_V y_Cb_block d B Q (kc - kcc) (ks - ksc) n' S' I' 6 [(0, .ref a0), (1, .int v1), (2, .int v2), (3, .int v3)] (v.toList ++ [])) : kv_V y_Cb_block d B Q kc ks n S I 0 [(0, .ref a0), (1, .int v1), (2, .int v2), (3, .int v3)] [] := by
  refine kv_aload_n dd_Cb_block_0 rfl ?_
  refine kv_iload_n dd_Cb_block_1 rfl ?_
  refine kv_iload_n dd_Cb_block_2 rfl ?_
  exact kv_callV [.int v1, .int v2] [] ls_Cb_90 hO1 hM dd_Cb_block_3 rfl hdp (Nat.le_of_ble_eq_true rfl) hkk hkl (fun v n' S' I' hv => kv_loc [0, 1, 2, 3] rfl (K v n' S' I' hv))
theorem bl_Cb_block_6 {d : Nat} {B : kv_B} {Q : kv_Q} {kc ks n : Nat} {S : kv_SM} {I : kv_IM} {a0 : Nat} {v1 : Int32} {v2 : Int32} {v3 : Int32} {t0 : Int32} (Kt : t0 = 0 → kv_V y_Cb_block d B Q kc ks n S I 18 [(0, .ref a0), (1, .int v1), (2, .int v2), (3, .int v3)] []) (Kf : ¬ t0 = 0 → kv_V y_Cb_block d B Q kc ks n S I 9 [(0, .ref a0), (1, .int v1), (2, .int v2), (3, .int v3)] []) : kv_V y_Cb_block d B Q kc ks n S I 6 [(0, .ref a0), (1, .int v1), (2, .int v2), (3, .int v3)] [.int t0] := by
  exact kv_if_eq 18 dd_Cb_block_6 (by decide) (fun h => kv_loc [0, 1, 2, 3] rfl (Kt h)) (fun h => kv_loc [0, 1, 2, 3] rfl (Kf h))
theorem bl_Cb_block_9 {d : Nat} {B : kv_B} {Q : kv_Q} {kc ks n : Nat} {S : kv_SM} {I : kv_IM} {a0 : Nat} {v1 : Int32} {v2 : Int32} {v3 : Int32} (Kt : v3 < 0 → kv_V y_Cb_block d B Q kc ks n S I 18 [(0, .ref a0), (1, .int v1), (2, .int v2), (3, .int v3)] []) (Kf : ¬ v3 < 0 → kv_V y_Cb_block d B Q kc ks n S I 13 [(0, .ref a0), (1, .int v1), (2, .int v2), (3, .int v3)] []) : kv_V y_Cb_block d B Q kc ks n S I 9 [(0, .ref a0), (1, .int v1), (2, .int v2), (3, .int v3)] [] := by
  refine kv_iload_n dd_Cb_block_9 rfl ?_
  exact kv_if_lt 18 dd_Cb_block_10 (by decide) (fun h => kv_loc [0, 1, 2, 3] rfl (Kt h)) (fun h => kv_loc [0, 1, 2, 3] rfl (Kf h))
theorem bl_Cb_block_13 {d : Nat} {B : kv_B} {Q : kv_Q} {kc ks n : Nat} {S : kv_SM} {I : kv_IM} {a0 : Nat} {v1 : Int32} {v2 : Int32} {v3 : Int32} (Kt : v3 ≤ 1 → kv_V y_Cb_block d B Q kc ks n S I 20 [(0, .ref a0), (1, .int v1), (2, .int v2), (3, .int v3)] []) (Kf : ¬ v3 ≤ 1 → kv_V y_Cb_block d B Q kc ks n S I 18 [(0, .ref a0), (1, .int v1), (2, .int v2), (3, .int v3)] []) : kv_V y_Cb_block d B Q kc ks n S I 13 [(0, .ref a0), (1, .int v1), (2, .int v2), (3, .int v3)] [] := by
  refine kv_iload_n dd_Cb_block_13 rfl ?_
  refine kv_iconst (v := 1) dd_Cb_block_14 (by decide) ?_
  exact kv_icmp_le 20 dd_Cb_block_15 (by decide) (fun h => kv_loc [0, 1, 2, 3] rfl (Kt h)) (fun h => kv_loc [0, 1, 2, 3] rfl (Kf h))
theorem bl_Cb_block_18 {d : Nat} {B : kv_B} {Q : kv_Q} {kc ks n : Nat} {S : kv_SM} {I : kv_IM} {a0 : Nat} {v1 : Int32} {v2 : Int32} {v3 : Int32} (hQ : Q (some (.int ((-1)))) n S I) : kv_V y_Cb_block d B Q kc ks n S I 18 [(0, .ref a0), (1, .int v1), (2, .int v2), (3, .int v3)] [] := by
  refine kv_iconst (v := (-1)) dd_Cb_block_18 (by decide) ?_
  exact kv_end (v := some (.int ((-1)))) hQ ⟨dd_Cb_block_19, .int, rfl, rfl⟩
theorem bl_Cb_block_20 {d : Nat} {B : kv_B} {Q : kv_Q} {kc ks n : Nat} {S : kv_SM} {I : kv_IM} {a0 : Nat} {v1 : Int32} {v2 : Int32} {v3 : Int32} {dc kcc ksc : Nat} {Qy : kv_Q} {r1 : Nat → Option Nat} (hO1 : S a0 = kO 5 r1) (hM : kv_T y_Cb_cutRow dc kcc ksc B [.ref a0, .int v1] n S I Qy) (hdp : dc + 1 ≤ d) (hkk : kcc ≤ kc) (hkl : ksc ≤ ks) (K : ∀ v n' S' I', Qy v n' S' I' → kv_V y_Cb_block d B Q (kc - kcc) (ks - ksc) n' S' I' 25 [(0, .ref a0), (1, .int v1), (2, .int v2), (3, .int v3)] (v.toList ++ [])) : kv_V y_Cb_block d B Q kc ks n S I 20 [(0, .ref a0), (1, .int v1), (2, .int v2), (3, .int v3)] [] := by
  refine kv_aload_n dd_Cb_block_20 rfl ?_
  refine kv_iload_n dd_Cb_block_21 rfl ?_
  exact kv_callV [.int v1] [] ls_Cb_83 hO1 hM dd_Cb_block_22 rfl hdp (Nat.le_of_ble_eq_true rfl) hkk hkl (fun v n' S' I' hv => kv_loc [0, 1, 2, 3] rfl (K v n' S' I' hv))
theorem bl_Cb_block_25 {d : Nat} {B : kv_B} {Q : kv_Q} {kc ks n : Nat} {S : kv_SM} {I : kv_IM} {a0 : Nat} {v1 : Int32} {v2 : Int32} {v3 : Int32} {t0 : Nat} (Kt : ¬ v3 = 0 → kv_V y_Cb_block d B Q kc ks n S I 41 [(0, .ref a0), (1, .int v1), (2, .int v2), (3, .int v3), (4, .ref t0)] []) (Kf : v3 = 0 → kv_V y_Cb_block d B Q kc ks n S I 31 [(0, .ref a0), (1, .int v1), (2, .int v2), (3, .int v3), (4, .ref t0)] []) : kv_V y_Cb_block d B Q kc ks n S I 25 [(0, .ref a0), (1, .int v1), (2, .int v2), (3, .int v3)] [.ref t0] := by
  refine kv_astore (L' := [(4, .ref t0), (0, .ref a0), (1, .int v1), (2, .int v2), (3, .int v3)]) dd_Cb_block_25 (by decide) rfl ?_
  refine kv_iload_n dd_Cb_block_27 rfl ?_
  exact kv_if_ne 41 dd_Cb_block_28 (by decide) (fun h => kv_loc [1, 2, 3, 4, 0] rfl (Kt h)) (fun h => kv_loc [1, 2, 3, 4, 0] rfl (Kf h))
theorem bl_Cb_block_31 {d : Nat} {B : kv_B} {Q : kv_Q} {kc ks n : Nat} {S : kv_SM} {I : kv_IM} {a0 : Nat} {v1 : Int32} {v2 : Int32} {v3 : Int32} {a4 : Nat} {r1 : Nat → Option Nat} {q2 : Nat} {m3 : Nat} {j4 : Nat} (hO1 : S a4 = kO 0 r1) (hr2 : r1 1 = some q2) (hA3 : S q2 = kI m3) (hi4 : v2 = nI j4 ∧ j4 < m3 ∧ m3 < 2 ^ 31) (K : kv_V y_Cb_block d B Q kc ks n S I 47 [(0, .ref a0), (1, .int v1), (2, .int v2), (3, .int v3), (4, .ref a4)] [.int (I q2 j4)]) : kv_V y_Cb_block d B Q kc ks n S I 31 [(0, .ref a0), (1, .int v1), (2, .int v2), (3, .int v3), (4, .ref a4)] [] := by
  refine kv_aload dd_Cb_block_31 rfl ?_
  refine kv_getR fl_Cb_93 dd_Cb_block_33 hO1 hr2 ?_
  refine kv_iload_n dd_Cb_block_36 rfl ?_
  refine kv_iald j4 dd_Cb_block_37 hA3 hi4.1 hi4.2.1 hi4.2.2 ?_
  refine kv_goto 47 dd_Cb_block_38 (by decide) ?_
  exact kv_loc [0, 1, 2, 3, 4] rfl K
theorem bl_Cb_block_41 {d : Nat} {B : kv_B} {Q : kv_Q} {kc ks n : Nat} {S : kv_SM} {I : kv_IM} {a0 : Nat} {v1 : Int32} {v2 : Int32} {v3 : Int32} {a4 : Nat} {dc kcc ksc : Nat} {Qy : kv_Q} {r1 : Nat → Option Nat} (hO1 : S a4 = kO 0 r1) (hM : kv_T y_Row_bytesOf dc kcc ksc B [.ref a4, .int v2] n S I Qy) (hdp : dc + 1 ≤ d) (hkk : kcc ≤ kc) (hkl : ksc ≤ ks) (K : ∀ v n' S' I', Qy v n' S' I' → kv_V y_Cb_block d B Q (kc - kcc) (ks - ksc) n' S' I' 47 [(0, .ref a0), (1, .int v1), (2, .int v2), (3, .int v3), (4, .ref a4)] (v.toList ++ [])) : kv_V y_Cb_block d B Q kc ks n S I 41 [(0, .ref a0), (1, .int v1), (2, .int v2), (3, .int v3), (4, .ref a4)] [] := by
  refine kv_aload dd_Cb_block_41 rfl ?_
  refine kv_iload_n dd_Cb_block_43 rfl ?_
  exact kv_callV [.int v2] [] ls_Cb_96 hO1 hM dd_Cb_block_44 rfl hdp (Nat.le_of_ble_eq_true rfl) hkk hkl (fun v n' S' I' hv => kv_loc [0, 1, 2, 3, 4] rfl (K v n' S' I' hv))
theorem bl_Cb_block_47 {d : Nat} {B : kv_B} {Q : kv_Q} {kc ks n : Nat} {S : kv_SM} {I : kv_IM} {a0 : Nat} {v1 : Int32} {v2 : Int32} {v3 : Int32} {a4 : Nat} {t0 : Int32} (hQ : Q (some (.int t0)) n S I) : kv_V y_Cb_block d B Q kc ks n S I 47 [(0, .ref a0), (1, .int v1), (2, .int v2), (3, .int v3), (4, .ref a4)] [.int t0] := by
  exact kv_end (v := some (.int t0)) hQ ⟨dd_Cb_block_47, .int, rfl, rfl⟩
theorem bl_Cb_hasBlock_0 {d : Nat} {B : kv_B} {Q : kv_Q} {kc ks n : Nat} {S : kv_SM} {I : kv_IM} {a0 : Nat} {v1 : Int32} {v2 : Int32} {dc kcc ksc : Nat} {Qy : kv_Q} (hM : kv_T y_Cb_isText dc kcc ksc B [.int v1] n S I Qy) (hdp : dc + 1 ≤ d) (hkk : kcc ≤ kc) (hkl : ksc ≤ ks) (K : ∀ v n' S' I', Qy v n' S' I' → kv_V y_Cb_hasBlock d B Q (kc - kcc) (ks - ksc) n' S' I' 4 [(0, .ref a0), (1, .int v1), (2, .int v2)] (v.toList ++ [])) : kv_V y_Cb_hasBlock d B Q kc ks n S I 0 [(0, .ref a0), (1, .int v1), (2, .int v2)] [] := by
  refine kv_iload_n dd_Cb_hasBlock_0 rfl ?_
  exact kv_callS [.int v1] [] ls_Cb_45 hM dd_Cb_hasBlock_1 rfl hdp (Nat.le_of_ble_eq_true rfl) hkk hkl (fun v n' S' I' hv => kv_loc [0, 1, 2] rfl (K v n' S' I' hv))
theorem bl_Cb_hasBlock_4 {d : Nat} {B : kv_B} {Q : kv_Q} {kc ks n : Nat} {S : kv_SM} {I : kv_IM} {a0 : Nat} {v1 : Int32} {v2 : Int32} {t0 : Int32} (Kt : t0 = 0 → kv_V y_Cb_hasBlock d B Q kc ks n S I 27 [(0, .ref a0), (1, .int v1), (2, .int v2)] []) (Kf : ¬ t0 = 0 → kv_V y_Cb_hasBlock d B Q kc ks n S I 7 [(0, .ref a0), (1, .int v1), (2, .int v2)] []) : kv_V y_Cb_hasBlock d B Q kc ks n S I 4 [(0, .ref a0), (1, .int v1), (2, .int v2)] [.int t0] := by
  exact kv_if_eq 27 dd_Cb_hasBlock_4 (by decide) (fun h => kv_loc [0, 1, 2] rfl (Kt h)) (fun h => kv_loc [0, 1, 2] rfl (Kf h))
theorem bl_Cb_hasBlock_7 {d : Nat} {B : kv_B} {Q : kv_Q} {kc ks n : Nat} {S : kv_SM} {I : kv_IM} {a0 : Nat} {v1 : Int32} {v2 : Int32} (Kt : v2 < 0 → kv_V y_Cb_hasBlock d B Q kc ks n S I 27 [(0, .ref a0), (1, .int v1), (2, .int v2)] []) (Kf : ¬ v2 < 0 → kv_V y_Cb_hasBlock d B Q kc ks n S I 11 [(0, .ref a0), (1, .int v1), (2, .int v2)] []) : kv_V y_Cb_hasBlock d B Q kc ks n S I 7 [(0, .ref a0), (1, .int v1), (2, .int v2)] [] := by
  refine kv_iload_n dd_Cb_hasBlock_7 rfl ?_
  exact kv_if_lt 27 dd_Cb_hasBlock_8 (by decide) (fun h => kv_loc [0, 1, 2] rfl (Kt h)) (fun h => kv_loc [0, 1, 2] rfl (Kf h))
theorem bl_Cb_hasBlock_11 {d : Nat} {B : kv_B} {Q : kv_Q} {kc ks n : Nat} {S : kv_SM} {I : kv_IM} {a0 : Nat} {v1 : Int32} {v2 : Int32} {dc kcc ksc : Nat} {Qy : kv_Q} {r1 : Nat → Option Nat} (hO1 : S a0 = kO 5 r1) (hM : kv_T y_Cb_cutRow dc kcc ksc B [.ref a0, .int v1] n S I Qy) (hdp : dc + 1 ≤ d) (hkk : kcc ≤ kc) (hkl : ksc ≤ ks) (K : ∀ v n' S' I', Qy v n' S' I' → kv_V y_Cb_hasBlock d B Q (kc - kcc) (ks - ksc) n' S' I' 17 [(0, .ref a0), (1, .int v1), (2, .int v2)] (v.toList ++ [.int v2])) : kv_V y_Cb_hasBlock d B Q kc ks n S I 11 [(0, .ref a0), (1, .int v1), (2, .int v2)] [] := by
  refine kv_iload_n dd_Cb_hasBlock_11 rfl ?_
  refine kv_aload_n dd_Cb_hasBlock_12 rfl ?_
  refine kv_iload_n dd_Cb_hasBlock_13 rfl ?_
  exact kv_callV [.int v1] [.int v2] ls_Cb_83 hO1 hM dd_Cb_hasBlock_14 rfl hdp (Nat.le_of_ble_eq_true rfl) hkk hkl (fun v n' S' I' hv => kv_loc [0, 1, 2] rfl (K v n' S' I' hv))
theorem bl_Cb_hasBlock_17 {d : Nat} {B : kv_B} {Q : kv_Q} {kc ks n : Nat} {S : kv_SM} {I : kv_IM} {a0 : Nat} {v1 : Int32} {v2 : Int32} {t0 : Nat} {t1 : Int32} {r1 : Nat → Option Nat} (hO1 : S t0 = kO 0 r1) (Kt : (I t0 5) ≤ t1 → kv_V y_Cb_hasBlock d B Q kc ks n S I 27 [(0, .ref a0), (1, .int v1), (2, .int v2)] []) (Kf : ¬ (I t0 5) ≤ t1 → kv_V y_Cb_hasBlock d B Q kc ks n S I 23 [(0, .ref a0), (1, .int v1), (2, .int v2)] []) : kv_V y_Cb_hasBlock d B Q kc ks n S I 17 [(0, .ref a0), (1, .int v1), (2, .int v2)] [.ref t0, .int t1] := by
  refine kv_getI fl_Cb_87 dd_Cb_hasBlock_17 hO1 ?_
  exact kv_icmp_ge 27 dd_Cb_hasBlock_20 (by decide) (fun h => kv_loc [0, 1, 2] rfl (Kt h)) (fun h => kv_loc [0, 1, 2] rfl (Kf h))
theorem bl_Cb_hasBlock_23 {d : Nat} {B : kv_B} {Q : kv_Q} {kc ks n : Nat} {S : kv_SM} {I : kv_IM} {a0 : Nat} {v1 : Int32} {v2 : Int32} (K : kv_V y_Cb_hasBlock d B Q kc ks n S I 28 [(0, .ref a0), (1, .int v1), (2, .int v2)] [.int 1]) : kv_V y_Cb_hasBlock d B Q kc ks n S I 23 [(0, .ref a0), (1, .int v1), (2, .int v2)] [] := by
  refine kv_iconst (v := 1) dd_Cb_hasBlock_23 (by decide) ?_
  refine kv_goto 28 dd_Cb_hasBlock_24 (by decide) ?_
  exact kv_loc [0, 1, 2] rfl K
theorem bl_Cb_hasBlock_27 {d : Nat} {B : kv_B} {Q : kv_Q} {kc ks n : Nat} {S : kv_SM} {I : kv_IM} {a0 : Nat} {v1 : Int32} {v2 : Int32} (K : kv_V y_Cb_hasBlock d B Q kc ks n S I 28 [(0, .ref a0), (1, .int v1), (2, .int v2)] [.int 0]) : kv_V y_Cb_hasBlock d B Q kc ks n S I 27 [(0, .ref a0), (1, .int v1), (2, .int v2)] [] := by
  refine kv_iconst (v := 0) dd_Cb_hasBlock_27 (by decide) ?_
  exact kv_loc [0, 1, 2] rfl K
theorem bl_Cb_hasBlock_28 {d : Nat} {B : kv_B} {Q : kv_Q} {kc ks n : Nat} {S : kv_SM} {I : kv_IM} {a0 : Nat} {v1 : Int32} {v2 : Int32} {t0 : Int32} (hb : narrow .boolean (.int t0) = .int t0) (hQ : Q (some (.int t0)) n S I) : kv_V y_Cb_hasBlock d B Q kc ks n S I 28 [(0, .ref a0), (1, .int v1), (2, .int v2)] [.int t0] := by
  exact kv_end (v := some (.int t0)) hQ ⟨dd_Cb_hasBlock_28, .boolean, rfl, hb⟩
theorem bl_Cb_digest_0 {d : Nat} {B : kv_B} {Q : kv_Q} {kc ks n : Nat} {S : kv_SM} {I : kv_IM} {a0 : Nat} {v1 : Int32} {v2 : Int32} {v3 : Int32} {dc kcc ksc : Nat} {Qy : kv_Q} {r1 : Nat → Option Nat} (hO1 : S a0 = kO 5 r1) (hM : kv_T y_Cb_hasBlock dc kcc ksc B [.ref a0, .int v1, .int v2] n S I Qy) (hdp : dc + 1 ≤ d) (hkk : kcc ≤ kc) (hkl : ksc ≤ ks) (K : ∀ v n' S' I', Qy v n' S' I' → kv_V y_Cb_digest d B Q (kc - kcc) (ks - ksc) n' S' I' 6 [(0, .ref a0), (1, .int v1), (2, .int v2), (3, .int v3)] (v.toList ++ [])) : kv_V y_Cb_digest d B Q kc ks n S I 0 [(0, .ref a0), (1, .int v1), (2, .int v2), (3, .int v3)] [] := by
  refine kv_aload_n dd_Cb_digest_0 rfl ?_
  refine kv_iload_n dd_Cb_digest_1 rfl ?_
  refine kv_iload_n dd_Cb_digest_2 rfl ?_
  exact kv_callV [.int v1, .int v2] [] ls_Cb_90 hO1 hM dd_Cb_digest_3 rfl hdp (Nat.le_of_ble_eq_true rfl) hkk hkl (fun v n' S' I' hv => kv_loc [0, 1, 2, 3] rfl (K v n' S' I' hv))
theorem bl_Cb_digest_6 {d : Nat} {B : kv_B} {Q : kv_Q} {kc ks n : Nat} {S : kv_SM} {I : kv_IM} {a0 : Nat} {v1 : Int32} {v2 : Int32} {v3 : Int32} {t0 : Int32} (Kt : t0 = 0 → kv_V y_Cb_digest d B Q kc ks n S I 18 [(0, .ref a0), (1, .int v1), (2, .int v2), (3, .int v3)] []) (Kf : ¬ t0 = 0 → kv_V y_Cb_digest d B Q kc ks n S I 9 [(0, .ref a0), (1, .int v1), (2, .int v2), (3, .int v3)] []) : kv_V y_Cb_digest d B Q kc ks n S I 6 [(0, .ref a0), (1, .int v1), (2, .int v2), (3, .int v3)] [.int t0] := by
  exact kv_if_eq 18 dd_Cb_digest_6 (by decide) (fun h => kv_loc [0, 1, 2, 3] rfl (Kt h)) (fun h => kv_loc [0, 1, 2, 3] rfl (Kf h))
theorem bl_Cb_digest_9 {d : Nat} {B : kv_B} {Q : kv_Q} {kc ks n : Nat} {S : kv_SM} {I : kv_IM} {a0 : Nat} {v1 : Int32} {v2 : Int32} {v3 : Int32} (Kt : v3 < 0 → kv_V y_Cb_digest d B Q kc ks n S I 18 [(0, .ref a0), (1, .int v1), (2, .int v2), (3, .int v3)] []) (Kf : ¬ v3 < 0 → kv_V y_Cb_digest d B Q kc ks n S I 13 [(0, .ref a0), (1, .int v1), (2, .int v2), (3, .int v3)] []) : kv_V y_Cb_digest d B Q kc ks n S I 9 [(0, .ref a0), (1, .int v1), (2, .int v2), (3, .int v3)] [] := by
  refine kv_iload_n dd_Cb_digest_9 rfl ?_
  exact kv_if_lt 18 dd_Cb_digest_10 (by decide) (fun h => kv_loc [0, 1, 2, 3] rfl (Kt h)) (fun h => kv_loc [0, 1, 2, 3] rfl (Kf h))
theorem bl_Cb_digest_13 {d : Nat} {B : kv_B} {Q : kv_Q} {kc ks n : Nat} {S : kv_SM} {I : kv_IM} {a0 : Nat} {v1 : Int32} {v2 : Int32} {v3 : Int32} (Kt : v3 ≤ 1 → kv_V y_Cb_digest d B Q kc ks n S I 22 [(0, .ref a0), (1, .int v1), (2, .int v2), (3, .int v3)] []) (Kf : ¬ v3 ≤ 1 → kv_V y_Cb_digest d B Q kc ks n S I 18 [(0, .ref a0), (1, .int v1), (2, .int v2), (3, .int v3)] []) : kv_V y_Cb_digest d B Q kc ks n S I 13 [(0, .ref a0), (1, .int v1), (2, .int v2), (3, .int v3)] [] := by
  refine kv_iload_n dd_Cb_digest_13 rfl ?_
  refine kv_iconst (v := 1) dd_Cb_digest_14 (by decide) ?_
  exact kv_icmp_le 22 dd_Cb_digest_15 (by decide) (fun h => kv_loc [0, 1, 2, 3] rfl (Kt h)) (fun h => kv_loc [0, 1, 2, 3] rfl (Kf h))
theorem bl_Cb_digest_18 {d : Nat} {B : kv_B} {Q : kv_Q} {kc ks n : Nat} {S : kv_SM} {I : kv_IM} {a0 : Nat} {v1 : Int32} {v2 : Int32} {v3 : Int32} (hQ : Q (some (.long ((-1)))) n S I) : kv_V y_Cb_digest d B Q kc ks n S I 18 [(0, .ref a0), (1, .int v1), (2, .int v2), (3, .int v3)] [] := by
  refine kv_ldc2 wk_Cb_100 dd_Cb_digest_18 ?_
  exact kv_end (v := some (.long ((-1)))) hQ ⟨dd_Cb_digest_21, rfl⟩
theorem bl_Cb_digest_22 {d : Nat} {B : kv_B} {Q : kv_Q} {kc ks n : Nat} {S : kv_SM} {I : kv_IM} {a0 : Nat} {v1 : Int32} {v2 : Int32} {v3 : Int32} {dc kcc ksc : Nat} {Qy : kv_Q} {r1 : Nat → Option Nat} (hO1 : S a0 = kO 5 r1) (hM : kv_T y_Cb_cutRow dc kcc ksc B [.ref a0, .int v1] n S I Qy) (hdp : dc + 1 ≤ d) (hkk : kcc ≤ kc) (hkl : ksc ≤ ks) (K : ∀ v n' S' I', Qy v n' S' I' → kv_V y_Cb_digest d B Q (kc - kcc) (ks - ksc) n' S' I' 27 [(0, .ref a0), (1, .int v1), (2, .int v2), (3, .int v3)] (v.toList ++ [])) : kv_V y_Cb_digest d B Q kc ks n S I 22 [(0, .ref a0), (1, .int v1), (2, .int v2), (3, .int v3)] [] := by
  refine kv_aload_n dd_Cb_digest_22 rfl ?_
  refine kv_iload_n dd_Cb_digest_23 rfl ?_
  exact kv_callV [.int v1] [] ls_Cb_83 hO1 hM dd_Cb_digest_24 rfl hdp (Nat.le_of_ble_eq_true rfl) hkk hkl (fun v n' S' I' hv => kv_loc [0, 1, 2, 3] rfl (K v n' S' I' hv))
theorem bl_Cb_digest_27 {d : Nat} {B : kv_B} {Q : kv_Q} {kc ks n : Nat} {S : kv_SM} {I : kv_IM} {a0 : Nat} {v1 : Int32} {v2 : Int32} {v3 : Int32} {t0 : Nat} (Kt : ¬ v3 = 0 → kv_V y_Cb_digest d B Q kc ks n S I 45 [(0, .ref a0), (1, .int v1), (2, .int v2), (3, .int v3), (4, .ref t0)] []) (Kf : v3 = 0 → kv_V y_Cb_digest d B Q kc ks n S I 33 [(0, .ref a0), (1, .int v1), (2, .int v2), (3, .int v3), (4, .ref t0)] []) : kv_V y_Cb_digest d B Q kc ks n S I 27 [(0, .ref a0), (1, .int v1), (2, .int v2), (3, .int v3)] [.ref t0] := by
  refine kv_astore (L' := [(4, .ref t0), (0, .ref a0), (1, .int v1), (2, .int v2), (3, .int v3)]) dd_Cb_digest_27 (by decide) rfl ?_
  refine kv_iload_n dd_Cb_digest_29 rfl ?_
  exact kv_if_ne 45 dd_Cb_digest_30 (by decide) (fun h => kv_loc [1, 2, 3, 4, 0] rfl (Kt h)) (fun h => kv_loc [1, 2, 3, 4, 0] rfl (Kf h))
theorem bl_Cb_digest_33 {d : Nat} {B : kv_B} {Q : kv_Q} {kc ks n : Nat} {S : kv_SM} {I : kv_IM} {a0 : Nat} {v1 : Int32} {v2 : Int32} {v3 : Int32} {a4 : Nat} {dc kcc ksc : Nat} {Qy : kv_Q} {r1 : Nat → Option Nat} (hO1 : S a4 = kO 0 r1) (hM : kv_T y_Row_mixedSum dc kcc ksc B [.ref a4, .int v2] n S I Qy) (hdp : dc + 1 ≤ d) (hkk : kcc ≤ kc) (hkl : ksc ≤ ks) (K : ∀ v n' S' I', Qy v n' S' I' → kv_V y_Cb_digest d B Q (kc - kcc) (ks - ksc) n' S' I' 39 [(0, .ref a0), (1, .int v1), (2, .int v2), (3, .int v3), (4, .ref a4)] (v.toList ++ [])) : kv_V y_Cb_digest d B Q kc ks n S I 33 [(0, .ref a0), (1, .int v1), (2, .int v2), (3, .int v3), (4, .ref a4)] [] := by
  refine kv_aload dd_Cb_digest_33 rfl ?_
  refine kv_iload_n dd_Cb_digest_35 rfl ?_
  exact kv_callV [.int v2] [] ls_Cb_102 hO1 hM dd_Cb_digest_36 rfl hdp (Nat.le_of_ble_eq_true rfl) hkk hkl (fun v n' S' I' hv => kv_loc [0, 1, 2, 3, 4] rfl (K v n' S' I' hv))
theorem bl_Cb_digest_39 {d : Nat} {B : kv_B} {Q : kv_Q} {kc ks n : Nat} {S : kv_SM} {I : kv_IM} {a0 : Nat} {v1 : Int32} {v2 : Int32} {v3 : Int32} {a4 : Nat} {t0 : Int32} {dc kcc ksc : Nat} {Qy : kv_Q} (hM : kv_T y_Cb_unsigned dc kcc ksc B [.int t0] n S I Qy) (hdp : dc + 1 ≤ d) (hkk : kcc ≤ kc) (hkl : ksc ≤ ks) (K : ∀ v n' S' I', Qy v n' S' I' → kv_V y_Cb_digest d B Q (kc - kcc) (ks - ksc) n' S' I' 42 [(0, .ref a0), (1, .int v1), (2, .int v2), (3, .int v3), (4, .ref a4)] (v.toList ++ [])) : kv_V y_Cb_digest d B Q kc ks n S I 39 [(0, .ref a0), (1, .int v1), (2, .int v2), (3, .int v3), (4, .ref a4)] [.int t0] := by
  exact kv_callS [.int t0] [] ls_Cb_105 hM dd_Cb_digest_39 rfl hdp (Nat.le_of_ble_eq_true rfl) hkk hkl (fun v n' S' I' hv => kv_loc [0, 1, 2, 3, 4] rfl (K v n' S' I' hv))
theorem bl_Cb_digest_42 {d : Nat} {B : kv_B} {Q : kv_Q} {kc ks n : Nat} {S : kv_SM} {I : kv_IM} {a0 : Nat} {v1 : Int32} {v2 : Int32} {v3 : Int32} {a4 : Nat} {t0 : Int64} (K : kv_V y_Cb_digest d B Q kc ks n S I 51 [(0, .ref a0), (1, .int v1), (2, .int v2), (3, .int v3), (4, .ref a4)] [.long t0]) : kv_V y_Cb_digest d B Q kc ks n S I 42 [(0, .ref a0), (1, .int v1), (2, .int v2), (3, .int v3), (4, .ref a4)] [.long t0] := by
  refine kv_goto 51 dd_Cb_digest_42 (by decide) ?_
  exact kv_loc [0, 1, 2, 3, 4] rfl K
theorem bl_Cb_digest_45 {d : Nat} {B : kv_B} {Q : kv_Q} {kc ks n : Nat} {S : kv_SM} {I : kv_IM} {a0 : Nat} {v1 : Int32} {v2 : Int32} {v3 : Int32} {a4 : Nat} {dc kcc ksc : Nat} {Qy : kv_Q} {r1 : Nat → Option Nat} (hO1 : S a4 = kO 0 r1) (hM : kv_T y_Row_doubleSum dc kcc ksc B [.ref a4, .int v2] n S I Qy) (hdp : dc + 1 ≤ d) (hkk : kcc ≤ kc) (hkl : ksc ≤ ks) (K : ∀ v n' S' I', Qy v n' S' I' → kv_V y_Cb_digest d B Q (kc - kcc) (ks - ksc) n' S' I' 51 [(0, .ref a0), (1, .int v1), (2, .int v2), (3, .int v3), (4, .ref a4)] (v.toList ++ [])) : kv_V y_Cb_digest d B Q kc ks n S I 45 [(0, .ref a0), (1, .int v1), (2, .int v2), (3, .int v3), (4, .ref a4)] [] := by
  refine kv_aload dd_Cb_digest_45 rfl ?_
  refine kv_iload_n dd_Cb_digest_47 rfl ?_
  exact kv_callV [.int v2] [] ls_Cb_109 hO1 hM dd_Cb_digest_48 rfl hdp (Nat.le_of_ble_eq_true rfl) hkk hkl (fun v n' S' I' hv => kv_loc [0, 1, 2, 3, 4] rfl (K v n' S' I' hv))
theorem bl_Cb_digest_51 {d : Nat} {B : kv_B} {Q : kv_Q} {kc ks n : Nat} {S : kv_SM} {I : kv_IM} {a0 : Nat} {v1 : Int32} {v2 : Int32} {v3 : Int32} {a4 : Nat} {t0 : Int64} (hQ : Q (some (.long t0)) n S I) : kv_V y_Cb_digest d B Q kc ks n S I 51 [(0, .ref a0), (1, .int v1), (2, .int v2), (3, .int v3), (4, .ref a4)] [.long t0] := by
  exact kv_end (v := some (.long t0)) hQ ⟨dd_Cb_digest_51, rfl⟩
theorem bl_Cb_unsigned_0 {d : Nat} {B : kv_B} {Q : kv_Q} {kc ks n : Nat} {S : kv_SM} {I : kv_IM} {v0 : Int32} (hQ : Q (some (.long ((Int32.toInt64 v0) &&& 4294967295))) n S I) : kv_V y_Cb_unsigned d B Q kc ks n S I 0 [(0, .int v0)] [] := by
  refine kv_iload_n dd_Cb_unsigned_0 rfl ?_
  refine kv_i2l dd_Cb_unsigned_1 ?_
  refine kv_ldc2 wk_Cb_177 dd_Cb_unsigned_2 ?_
  refine kv_land dd_Cb_unsigned_5 ?_
  exact kv_end (v := some (.long ((Int32.toInt64 v0) &&& 4294967295))) hQ ⟨dd_Cb_unsigned_6, rfl⟩
theorem bl_Cb_hash_0 {d : Nat} {B : kv_B} {Q : kv_Q} {kc ks n : Nat} {S : kv_SM} {I : kv_IM} {a0 : Nat} {v1 : Int32} {v2 : Int32} {dc kcc ksc : Nat} {Qy : kv_Q} {r1 : Nat → Option Nat} (hO1 : S a0 = kO 5 r1) (hM : kv_T y_Cb_hasByte dc kcc ksc B [.ref a0, .int v1, .int v2] n S I Qy) (hdp : dc + 1 ≤ d) (hkk : kcc ≤ kc) (hkl : ksc ≤ ks) (K : ∀ v n' S' I', Qy v n' S' I' → kv_V y_Cb_hash d B Q (kc - kcc) (ks - ksc) n' S' I' 6 [(0, .ref a0), (1, .int v1), (2, .int v2)] (v.toList ++ [])) : kv_V y_Cb_hash d B Q kc ks n S I 0 [(0, .ref a0), (1, .int v1), (2, .int v2)] [] := by
  refine kv_aload_n dd_Cb_hash_0 rfl ?_
  refine kv_iload_n dd_Cb_hash_1 rfl ?_
  refine kv_iload_n dd_Cb_hash_2 rfl ?_
  exact kv_callV [.int v1, .int v2] [] ls_Cb_69 hO1 hM dd_Cb_hash_3 rfl hdp (Nat.le_of_ble_eq_true rfl) hkk hkl (fun v n' S' I' hv => kv_loc [0, 1, 2] rfl (K v n' S' I' hv))
theorem bl_Cb_hash_6 {d : Nat} {B : kv_B} {Q : kv_Q} {kc ks n : Nat} {S : kv_SM} {I : kv_IM} {a0 : Nat} {v1 : Int32} {v2 : Int32} {t0 : Int32} (Kt : ¬ t0 = 0 → kv_V y_Cb_hash d B Q kc ks n S I 13 [(0, .ref a0), (1, .int v1), (2, .int v2)] []) (Kf : t0 = 0 → kv_V y_Cb_hash d B Q kc ks n S I 9 [(0, .ref a0), (1, .int v1), (2, .int v2)] []) : kv_V y_Cb_hash d B Q kc ks n S I 6 [(0, .ref a0), (1, .int v1), (2, .int v2)] [.int t0] := by
  exact kv_if_ne 13 dd_Cb_hash_6 (by decide) (fun h => kv_loc [0, 1, 2] rfl (Kt h)) (fun h => kv_loc [0, 1, 2] rfl (Kf h))
theorem bl_Cb_hash_9 {d : Nat} {B : kv_B} {Q : kv_Q} {kc ks n : Nat} {S : kv_SM} {I : kv_IM} {a0 : Nat} {v1 : Int32} {v2 : Int32} (hQ : Q (some (.long ((-1)))) n S I) : kv_V y_Cb_hash d B Q kc ks n S I 9 [(0, .ref a0), (1, .int v1), (2, .int v2)] [] := by
  refine kv_ldc2 wk_Cb_100 dd_Cb_hash_9 ?_
  exact kv_end (v := some (.long ((-1)))) hQ ⟨dd_Cb_hash_12, rfl⟩
theorem bl_Cb_hash_13 {d : Nat} {B : kv_B} {Q : kv_Q} {kc ks n : Nat} {S : kv_SM} {I : kv_IM} {a0 : Nat} {v1 : Int32} {v2 : Int32} {dc kcc ksc : Nat} {Qy : kv_Q} {r1 : Nat → Option Nat} (hO1 : S a0 = kO 5 r1) (hM : kv_T y_Cb_cutRow dc kcc ksc B [.ref a0, .int v1] n S I Qy) (hdp : dc + 1 ≤ d) (hkk : kcc ≤ kc) (hkl : ksc ≤ ks) (K : ∀ v n' S' I', Qy v n' S' I' → kv_V y_Cb_hash d B Q (kc - kcc) (ks - ksc) n' S' I' 18 [(0, .ref a0), (1, .int v1), (2, .int v2)] (v.toList ++ [])) : kv_V y_Cb_hash d B Q kc ks n S I 13 [(0, .ref a0), (1, .int v1), (2, .int v2)] [] := by
  refine kv_aload_n dd_Cb_hash_13 rfl ?_
  refine kv_iload_n dd_Cb_hash_14 rfl ?_
  exact kv_callV [.int v1] [] ls_Cb_83 hO1 hM dd_Cb_hash_15 rfl hdp (Nat.le_of_ble_eq_true rfl) hkk hkl (fun v n' S' I' hv => kv_loc [0, 1, 2] rfl (K v n' S' I' hv))
theorem bl_Cb_hash_18 {d : Nat} {B : kv_B} {Q : kv_Q} {kc ks n : Nat} {S : kv_SM} {I : kv_IM} {a0 : Nat} {v1 : Int32} {v2 : Int32} {t0 : Nat} {r1 : Nat → Option Nat} {q2 : Nat} {r3 : Nat → Option Nat} {q4 : Nat} {dc kcc ksc : Nat} {Qy : kv_Q} (hO1 : S a0 = kO 5 r1) (hr2 : r1 0 = some q2) (hO3 : S t0 = kO 0 r3) (hr4 : r3 0 = some q4) (hM : kv_T y_Row_startOfBlockWith dc kcc ksc B [.ref t0, .int v2] n S I Qy) (hdp : dc + 1 ≤ d) (hkk : kcc ≤ kc) (hkl : ksc ≤ ks) (K : ∀ v n' S' I', Qy v n' S' I' → kv_V y_Cb_hash d B Q (kc - kcc) (ks - ksc) n' S' I' 32 [(0, .ref a0), (1, .int v1), (2, .int v2), (3, .ref t0)] (v.toList ++ [.ref q4, .ref q2])) : kv_V y_Cb_hash d B Q kc ks n S I 18 [(0, .ref a0), (1, .int v1), (2, .int v2)] [.ref t0] := by
  refine kv_astore_n (L' := [(3, .ref t0), (0, .ref a0), (1, .int v1), (2, .int v2)]) dd_Cb_hash_18 (by decide) rfl ?_
  refine kv_aload_n dd_Cb_hash_19 rfl ?_
  refine kv_getR fl_Cb_10 dd_Cb_hash_20 hO1 hr2 ?_
  refine kv_aload_n dd_Cb_hash_23 rfl ?_
  refine kv_getR fl_Cb_77 dd_Cb_hash_24 hO3 hr4 ?_
  refine kv_aload_n dd_Cb_hash_27 rfl ?_
  refine kv_iload_n dd_Cb_hash_28 rfl ?_
  exact kv_callV [.int v2] [.ref q4, .ref q2] ls_Cb_112 hO3 hM dd_Cb_hash_29 rfl hdp (Nat.le_of_ble_eq_true rfl) hkk hkl (fun v n' S' I' hv => kv_loc [1, 2, 3, 0] rfl (K v n' S' I' hv))
theorem bl_Cb_hash_32 {d : Nat} {B : kv_B} {Q : kv_Q} {kc ks n : Nat} {S : kv_SM} {I : kv_IM} {a0 : Nat} {v1 : Int32} {v2 : Int32} {a3 : Nat} {t0 : Int32} {t1 : Nat} {t2 : Nat} {dc kcc ksc : Nat} {Qy : kv_Q} {r1 : Nat → Option Nat} (hO1 : S t2 = kO 1 r1) (hM : kv_T y_Rul_numberAt dc kcc ksc B [.ref t2, .ref t1, .int t0, .int v2] n S I Qy) (hdp : dc + 1 ≤ d) (hkk : kcc ≤ kc) (hkl : ksc ≤ ks) (K : ∀ v n' S' I', Qy v n' S' I' → kv_V y_Cb_hash d B Q (kc - kcc) (ks - ksc) n' S' I' 36 [(0, .ref a0), (1, .int v1), (2, .int v2), (3, .ref a3)] (v.toList ++ [])) : kv_V y_Cb_hash d B Q kc ks n S I 32 [(0, .ref a0), (1, .int v1), (2, .int v2), (3, .ref a3)] [.int t0, .ref t1, .ref t2] := by
  refine kv_iload_n dd_Cb_hash_32 rfl ?_
  exact kv_callV [.ref t1, .int t0, .int v2] [] ls_Cb_115 hO1 hM dd_Cb_hash_33 rfl hdp (Nat.le_of_ble_eq_true rfl) hkk hkl (fun v n' S' I' hv => kv_loc [0, 1, 2, 3] rfl (K v n' S' I' hv))
theorem bl_Cb_hash_36 {d : Nat} {B : kv_B} {Q : kv_Q} {kc ks n : Nat} {S : kv_SM} {I : kv_IM} {a0 : Nat} {v1 : Int32} {v2 : Int32} {a3 : Nat} {t0 : Int32} {dc kcc ksc : Nat} {Qy : kv_Q} (hM : kv_T y_Cb_unsigned dc kcc ksc B [.int t0] n S I Qy) (hdp : dc + 1 ≤ d) (hkk : kcc ≤ kc) (hkl : ksc ≤ ks) (K : ∀ v n' S' I', Qy v n' S' I' → kv_V y_Cb_hash d B Q (kc - kcc) (ks - ksc) n' S' I' 39 [(0, .ref a0), (1, .int v1), (2, .int v2), (3, .ref a3)] (v.toList ++ [])) : kv_V y_Cb_hash d B Q kc ks n S I 36 [(0, .ref a0), (1, .int v1), (2, .int v2), (3, .ref a3)] [.int t0] := by
  exact kv_callS [.int t0] [] ls_Cb_105 hM dd_Cb_hash_36 rfl hdp (Nat.le_of_ble_eq_true rfl) hkk hkl (fun v n' S' I' hv => kv_loc [0, 1, 2, 3] rfl (K v n' S' I' hv))
theorem bl_Cb_hash_39 {d : Nat} {B : kv_B} {Q : kv_Q} {kc ks n : Nat} {S : kv_SM} {I : kv_IM} {a0 : Nat} {v1 : Int32} {v2 : Int32} {a3 : Nat} {t0 : Int64} (hQ : Q (some (.long t0)) n S I) : kv_V y_Cb_hash d B Q kc ks n S I 39 [(0, .ref a0), (1, .int v1), (2, .int v2), (3, .ref a3)] [.long t0] := by
  exact kv_end (v := some (.long t0)) hQ ⟨dd_Cb_hash_39, rfl⟩
theorem bl_Cb_alike_0 {d : Nat} {B : kv_B} {Q : kv_Q} {kc ks n : Nat} {S : kv_SM} {I : kv_IM} {a0 : Nat} {v1 : Int32} {v2 : Int32} {v3 : Int32} {dc kcc ksc : Nat} {Qy : kv_Q} (hM : kv_T y_Cb_isText dc kcc ksc B [.int v1] n S I Qy) (hdp : dc + 1 ≤ d) (hkk : kcc ≤ kc) (hkl : ksc ≤ ks) (K : ∀ v n' S' I', Qy v n' S' I' → kv_V y_Cb_alike d B Q (kc - kcc) (ks - ksc) n' S' I' 4 [(0, .ref a0), (1, .int v1), (2, .int v2), (3, .int v3)] (v.toList ++ [])) : kv_V y_Cb_alike d B Q kc ks n S I 0 [(0, .ref a0), (1, .int v1), (2, .int v2), (3, .int v3)] [] := by
  refine kv_iload_n dd_Cb_alike_0 rfl ?_
  exact kv_callS [.int v1] [] ls_Cb_45 hM dd_Cb_alike_1 rfl hdp (Nat.le_of_ble_eq_true rfl) hkk hkl (fun v n' S' I' hv => kv_loc [0, 1, 2, 3] rfl (K v n' S' I' hv))
theorem bl_Cb_alike_4 {d : Nat} {B : kv_B} {Q : kv_Q} {kc ks n : Nat} {S : kv_SM} {I : kv_IM} {a0 : Nat} {v1 : Int32} {v2 : Int32} {v3 : Int32} {t0 : Int32} (Kt : t0 = 0 → kv_V y_Cb_alike d B Q kc ks n S I 23 [(0, .ref a0), (1, .int v1), (2, .int v2), (3, .int v3)] []) (Kf : ¬ t0 = 0 → kv_V y_Cb_alike d B Q kc ks n S I 7 [(0, .ref a0), (1, .int v1), (2, .int v2), (3, .int v3)] []) : kv_V y_Cb_alike d B Q kc ks n S I 4 [(0, .ref a0), (1, .int v1), (2, .int v2), (3, .int v3)] [.int t0] := by
  exact kv_if_eq 23 dd_Cb_alike_4 (by decide) (fun h => kv_loc [0, 1, 2, 3] rfl (Kt h)) (fun h => kv_loc [0, 1, 2, 3] rfl (Kf h))
theorem bl_Cb_alike_7 {d : Nat} {B : kv_B} {Q : kv_Q} {kc ks n : Nat} {S : kv_SM} {I : kv_IM} {a0 : Nat} {v1 : Int32} {v2 : Int32} {v3 : Int32} {dc kcc ksc : Nat} {Qy : kv_Q} (hM : kv_T y_Cb_isText dc kcc ksc B [.int v2] n S I Qy) (hdp : dc + 1 ≤ d) (hkk : kcc ≤ kc) (hkl : ksc ≤ ks) (K : ∀ v n' S' I', Qy v n' S' I' → kv_V y_Cb_alike d B Q (kc - kcc) (ks - ksc) n' S' I' 11 [(0, .ref a0), (1, .int v1), (2, .int v2), (3, .int v3)] (v.toList ++ [])) : kv_V y_Cb_alike d B Q kc ks n S I 7 [(0, .ref a0), (1, .int v1), (2, .int v2), (3, .int v3)] [] := by
  refine kv_iload_n dd_Cb_alike_7 rfl ?_
  exact kv_callS [.int v2] [] ls_Cb_45 hM dd_Cb_alike_8 rfl hdp (Nat.le_of_ble_eq_true rfl) hkk hkl (fun v n' S' I' hv => kv_loc [0, 1, 2, 3] rfl (K v n' S' I' hv))
theorem bl_Cb_alike_11 {d : Nat} {B : kv_B} {Q : kv_Q} {kc ks n : Nat} {S : kv_SM} {I : kv_IM} {a0 : Nat} {v1 : Int32} {v2 : Int32} {v3 : Int32} {t0 : Int32} (Kt : t0 = 0 → kv_V y_Cb_alike d B Q kc ks n S I 23 [(0, .ref a0), (1, .int v1), (2, .int v2), (3, .int v3)] []) (Kf : ¬ t0 = 0 → kv_V y_Cb_alike d B Q kc ks n S I 14 [(0, .ref a0), (1, .int v1), (2, .int v2), (3, .int v3)] []) : kv_V y_Cb_alike d B Q kc ks n S I 11 [(0, .ref a0), (1, .int v1), (2, .int v2), (3, .int v3)] [.int t0] := by
  exact kv_if_eq 23 dd_Cb_alike_11 (by decide) (fun h => kv_loc [0, 1, 2, 3] rfl (Kt h)) (fun h => kv_loc [0, 1, 2, 3] rfl (Kf h))
theorem bl_Cb_alike_14 {d : Nat} {B : kv_B} {Q : kv_Q} {kc ks n : Nat} {S : kv_SM} {I : kv_IM} {a0 : Nat} {v1 : Int32} {v2 : Int32} {v3 : Int32} (Kt : v3 < 0 → kv_V y_Cb_alike d B Q kc ks n S I 23 [(0, .ref a0), (1, .int v1), (2, .int v2), (3, .int v3)] []) (Kf : ¬ v3 < 0 → kv_V y_Cb_alike d B Q kc ks n S I 18 [(0, .ref a0), (1, .int v1), (2, .int v2), (3, .int v3)] []) : kv_V y_Cb_alike d B Q kc ks n S I 14 [(0, .ref a0), (1, .int v1), (2, .int v2), (3, .int v3)] [] := by
  refine kv_iload_n dd_Cb_alike_14 rfl ?_
  exact kv_if_lt 23 dd_Cb_alike_15 (by decide) (fun h => kv_loc [0, 1, 2, 3] rfl (Kt h)) (fun h => kv_loc [0, 1, 2, 3] rfl (Kf h))
theorem bl_Cb_alike_18 {d : Nat} {B : kv_B} {Q : kv_Q} {kc ks n : Nat} {S : kv_SM} {I : kv_IM} {a0 : Nat} {v1 : Int32} {v2 : Int32} {v3 : Int32} (Kt : v3 ≤ 3 → kv_V y_Cb_alike d B Q kc ks n S I 25 [(0, .ref a0), (1, .int v1), (2, .int v2), (3, .int v3)] []) (Kf : ¬ v3 ≤ 3 → kv_V y_Cb_alike d B Q kc ks n S I 23 [(0, .ref a0), (1, .int v1), (2, .int v2), (3, .int v3)] []) : kv_V y_Cb_alike d B Q kc ks n S I 18 [(0, .ref a0), (1, .int v1), (2, .int v2), (3, .int v3)] [] := by
  refine kv_iload_n dd_Cb_alike_18 rfl ?_
  refine kv_iconst (v := 3) dd_Cb_alike_19 (by decide) ?_
  exact kv_icmp_le 25 dd_Cb_alike_20 (by decide) (fun h => kv_loc [0, 1, 2, 3] rfl (Kt h)) (fun h => kv_loc [0, 1, 2, 3] rfl (Kf h))
theorem bl_Cb_alike_23 {d : Nat} {B : kv_B} {Q : kv_Q} {kc ks n : Nat} {S : kv_SM} {I : kv_IM} {a0 : Nat} {v1 : Int32} {v2 : Int32} {v3 : Int32} (hQ : Q (some (.int ((-1)))) n S I) : kv_V y_Cb_alike d B Q kc ks n S I 23 [(0, .ref a0), (1, .int v1), (2, .int v2), (3, .int v3)] [] := by
  refine kv_iconst (v := (-1)) dd_Cb_alike_23 (by decide) ?_
  exact kv_end (v := some (.int ((-1)))) hQ ⟨dd_Cb_alike_24, .int, rfl, rfl⟩
theorem bl_Cb_alike_25 {d : Nat} {B : kv_B} {Q : kv_Q} {kc ks n : Nat} {S : kv_SM} {I : kv_IM} {a0 : Nat} {v1 : Int32} {v2 : Int32} {v3 : Int32} {dc kcc ksc : Nat} {Qy : kv_Q} {r1 : Nat → Option Nat} (hO1 : S a0 = kO 5 r1) (hM : kv_T y_Cb_indexedRow dc kcc ksc B [.ref a0, .int v1] n S I Qy) (hdp : dc + 1 ≤ d) (hkk : kcc ≤ kc) (hkl : ksc ≤ ks) (K : ∀ v n' S' I', Qy v n' S' I' → kv_V y_Cb_alike d B Q (kc - kcc) (ks - ksc) n' S' I' 30 [(0, .ref a0), (1, .int v1), (2, .int v2), (3, .int v3)] (v.toList ++ [])) : kv_V y_Cb_alike d B Q kc ks n S I 25 [(0, .ref a0), (1, .int v1), (2, .int v2), (3, .int v3)] [] := by
  refine kv_aload_n dd_Cb_alike_25 rfl ?_
  refine kv_iload_n dd_Cb_alike_26 rfl ?_
  exact kv_callV [.int v1] [] ls_Cb_119 hO1 hM dd_Cb_alike_27 rfl hdp (Nat.le_of_ble_eq_true rfl) hkk hkl (fun v n' S' I' hv => kv_loc [0, 1, 2, 3] rfl (K v n' S' I' hv))
theorem bl_Cb_alike_30 {d : Nat} {B : kv_B} {Q : kv_Q} {kc ks n : Nat} {S : kv_SM} {I : kv_IM} {a0 : Nat} {v1 : Int32} {v2 : Int32} {v3 : Int32} {t0 : Nat} {dc kcc ksc : Nat} {Qy : kv_Q} {r1 : Nat → Option Nat} (hO1 : S a0 = kO 5 r1) (hM : kv_T y_Cb_indexedRow dc kcc ksc B [.ref a0, .int v2] n S I Qy) (hdp : dc + 1 ≤ d) (hkk : kcc ≤ kc) (hkl : ksc ≤ ks) (K : ∀ v n' S' I', Qy v n' S' I' → kv_V y_Cb_alike d B Q (kc - kcc) (ks - ksc) n' S' I' 37 [(0, .ref a0), (1, .int v1), (2, .int v2), (3, .int v3), (4, .ref t0)] (v.toList ++ [])) : kv_V y_Cb_alike d B Q kc ks n S I 30 [(0, .ref a0), (1, .int v1), (2, .int v2), (3, .int v3)] [.ref t0] := by
  refine kv_astore (L' := [(4, .ref t0), (0, .ref a0), (1, .int v1), (2, .int v2), (3, .int v3)]) dd_Cb_alike_30 (by decide) rfl ?_
  refine kv_aload_n dd_Cb_alike_32 rfl ?_
  refine kv_iload_n dd_Cb_alike_33 rfl ?_
  exact kv_callV [.int v2] [] ls_Cb_119 hO1 hM dd_Cb_alike_34 rfl hdp (Nat.le_of_ble_eq_true rfl) hkk hkl (fun v n' S' I' hv => kv_loc [1, 2, 3, 4, 0] rfl (K v n' S' I' hv))
theorem bl_Cb_alike_37 {d : Nat} {B : kv_B} {Q : kv_Q} {kc ks n : Nat} {S : kv_SM} {I : kv_IM} {a0 : Nat} {v1 : Int32} {v2 : Int32} {v3 : Int32} {a4 : Nat} {t0 : Nat} (K0 : v3 = nI 0 → kv_V y_Cb_alike d B Q kc ks n S I 68 [(0, .ref a0), (1, .int v1), (2, .int v2), (3, .int v3), (4, .ref a4), (5, .ref t0)] []) (K1 : v3 = nI 1 → kv_V y_Cb_alike d B Q kc ks n S I 76 [(0, .ref a0), (1, .int v1), (2, .int v2), (3, .int v3), (4, .ref a4), (5, .ref t0)] []) (K2 : v3 = nI 2 → kv_V y_Cb_alike d B Q kc ks n S I 84 [(0, .ref a0), (1, .int v1), (2, .int v2), (3, .int v3), (4, .ref a4), (5, .ref t0)] []) (Kd : (∀ k : Nat, k < 3 → ¬ v3 = nI k) → kv_V y_Cb_alike d B Q kc ks n S I 92 [(0, .ref a0), (1, .int v1), (2, .int v2), (3, .int v3), (4, .ref a4), (5, .ref t0)] []) : kv_V y_Cb_alike d B Q kc ks n S I 37 [(0, .ref a0), (1, .int v1), (2, .int v2), (3, .int v3), (4, .ref a4)] [.ref t0] := by
  refine kv_astore (L' := [(5, .ref t0), (0, .ref a0), (1, .int v1), (2, .int v2), (3, .int v3), (4, .ref a4)]) dd_Cb_alike_37 (by decide) rfl ?_
  refine kv_iload_n dd_Cb_alike_39 rfl ?_
  refine kv_table 3 92 dd_Cb_alike_40 rfl (by decide) (fun k hk hx => ?_) (by decide) (fun h => kv_loc [1, 2, 3, 4, 5, 0] rfl (Kd h))
  match k, hk with
  | 0, _ => exact ⟨_, 68, rfl, by decide, kv_loc [1, 2, 3, 4, 5, 0] rfl (K0 hx)⟩
  | 1, _ => exact ⟨_, 76, rfl, by decide, kv_loc [1, 2, 3, 4, 5, 0] rfl (K1 hx)⟩
  | 2, _ => exact ⟨_, 84, rfl, by decide, kv_loc [1, 2, 3, 4, 5, 0] rfl (K2 hx)⟩
  | k + 3, h => exact absurd h (by omega)
theorem bl_Cb_alike_68 {d : Nat} {B : kv_B} {Q : kv_Q} {kc ks n : Nat} {S : kv_SM} {I : kv_IM} {a0 : Nat} {v1 : Int32} {v2 : Int32} {v3 : Int32} {a4 : Nat} {a5 : Nat} {dc kcc ksc : Nat} {Qy : kv_Q} {r1 : Nat → Option Nat} (hO1 : S a4 = kO 0 r1) (hM : kv_T y_Row_blocksIn dc kcc ksc B [.ref a4, .ref a5] n S I Qy) (hdp : dc + 1 ≤ d) (hkk : kcc ≤ kc) (hkl : ksc ≤ ks) (K : ∀ v n' S' I', Qy v n' S' I' → kv_V y_Cb_alike d B Q (kc - kcc) (ks - ksc) n' S' I' 75 [(0, .ref a0), (1, .int v1), (2, .int v2), (3, .int v3), (4, .ref a4), (5, .ref a5)] (v.toList ++ [])) : kv_V y_Cb_alike d B Q kc ks n S I 68 [(0, .ref a0), (1, .int v1), (2, .int v2), (3, .int v3), (4, .ref a4), (5, .ref a5)] [] := by
  refine kv_aload dd_Cb_alike_68 rfl ?_
  refine kv_aload dd_Cb_alike_70 rfl ?_
  exact kv_callV [.ref a5] [] ls_Cb_122 hO1 hM dd_Cb_alike_72 rfl hdp (Nat.le_of_ble_eq_true rfl) hkk hkl (fun v n' S' I' hv => kv_loc [0, 1, 2, 3, 4, 5] rfl (K v n' S' I' hv))
theorem bl_Cb_alike_75 {d : Nat} {B : kv_B} {Q : kv_Q} {kc ks n : Nat} {S : kv_SM} {I : kv_IM} {a0 : Nat} {v1 : Int32} {v2 : Int32} {v3 : Int32} {a4 : Nat} {a5 : Nat} {t0 : Int32} (hQ : Q (some (.int t0)) n S I) : kv_V y_Cb_alike d B Q kc ks n S I 75 [(0, .ref a0), (1, .int v1), (2, .int v2), (3, .int v3), (4, .ref a4), (5, .ref a5)] [.int t0] := by
  exact kv_end (v := some (.int t0)) hQ ⟨dd_Cb_alike_75, .int, rfl, rfl⟩
theorem bl_Cb_alike_76 {d : Nat} {B : kv_B} {Q : kv_Q} {kc ks n : Nat} {S : kv_SM} {I : kv_IM} {a0 : Nat} {v1 : Int32} {v2 : Int32} {v3 : Int32} {a4 : Nat} {a5 : Nat} {dc kcc ksc : Nat} {Qy : kv_Q} {r1 : Nat → Option Nat} (hO1 : S a4 = kO 0 r1) (hM : kv_T y_Row_bytesIn dc kcc ksc B [.ref a4, .ref a5] n S I Qy) (hdp : dc + 1 ≤ d) (hkk : kcc ≤ kc) (hkl : ksc ≤ ks) (K : ∀ v n' S' I', Qy v n' S' I' → kv_V y_Cb_alike d B Q (kc - kcc) (ks - ksc) n' S' I' 83 [(0, .ref a0), (1, .int v1), (2, .int v2), (3, .int v3), (4, .ref a4), (5, .ref a5)] (v.toList ++ [])) : kv_V y_Cb_alike d B Q kc ks n S I 76 [(0, .ref a0), (1, .int v1), (2, .int v2), (3, .int v3), (4, .ref a4), (5, .ref a5)] [] := by
  refine kv_aload dd_Cb_alike_76 rfl ?_
  refine kv_aload dd_Cb_alike_78 rfl ?_
  exact kv_callV [.ref a5] [] ls_Cb_126 hO1 hM dd_Cb_alike_80 rfl hdp (Nat.le_of_ble_eq_true rfl) hkk hkl (fun v n' S' I' hv => kv_loc [0, 1, 2, 3, 4, 5] rfl (K v n' S' I' hv))
theorem bl_Cb_alike_83 {d : Nat} {B : kv_B} {Q : kv_Q} {kc ks n : Nat} {S : kv_SM} {I : kv_IM} {a0 : Nat} {v1 : Int32} {v2 : Int32} {v3 : Int32} {a4 : Nat} {a5 : Nat} {t0 : Int32} (hQ : Q (some (.int t0)) n S I) : kv_V y_Cb_alike d B Q kc ks n S I 83 [(0, .ref a0), (1, .int v1), (2, .int v2), (3, .int v3), (4, .ref a4), (5, .ref a5)] [.int t0] := by
  exact kv_end (v := some (.int t0)) hQ ⟨dd_Cb_alike_83, .int, rfl, rfl⟩
theorem bl_Cb_alike_84 {d : Nat} {B : kv_B} {Q : kv_Q} {kc ks n : Nat} {S : kv_SM} {I : kv_IM} {a0 : Nat} {v1 : Int32} {v2 : Int32} {v3 : Int32} {a4 : Nat} {a5 : Nat} {dc kcc ksc : Nat} {Qy : kv_Q} {r1 : Nat → Option Nat} (hO1 : S a4 = kO 0 r1) (hM : kv_T y_Row_firstLike dc kcc ksc B [.ref a4, .ref a5] n S I Qy) (hdp : dc + 1 ≤ d) (hkk : kcc ≤ kc) (hkl : ksc ≤ ks) (K : ∀ v n' S' I', Qy v n' S' I' → kv_V y_Cb_alike d B Q (kc - kcc) (ks - ksc) n' S' I' 91 [(0, .ref a0), (1, .int v1), (2, .int v2), (3, .int v3), (4, .ref a4), (5, .ref a5)] (v.toList ++ [])) : kv_V y_Cb_alike d B Q kc ks n S I 84 [(0, .ref a0), (1, .int v1), (2, .int v2), (3, .int v3), (4, .ref a4), (5, .ref a5)] [] := by
  refine kv_aload dd_Cb_alike_84 rfl ?_
  refine kv_aload dd_Cb_alike_86 rfl ?_
  exact kv_callV [.ref a5] [] ls_Cb_129 hO1 hM dd_Cb_alike_88 rfl hdp (Nat.le_of_ble_eq_true rfl) hkk hkl (fun v n' S' I' hv => kv_loc [0, 1, 2, 3, 4, 5] rfl (K v n' S' I' hv))
theorem bl_Cb_alike_91 {d : Nat} {B : kv_B} {Q : kv_Q} {kc ks n : Nat} {S : kv_SM} {I : kv_IM} {a0 : Nat} {v1 : Int32} {v2 : Int32} {v3 : Int32} {a4 : Nat} {a5 : Nat} {t0 : Int32} (hQ : Q (some (.int t0)) n S I) : kv_V y_Cb_alike d B Q kc ks n S I 91 [(0, .ref a0), (1, .int v1), (2, .int v2), (3, .int v3), (4, .ref a4), (5, .ref a5)] [.int t0] := by
  exact kv_end (v := some (.int t0)) hQ ⟨dd_Cb_alike_91, .int, rfl, rfl⟩
theorem bl_Cb_alike_92 {d : Nat} {B : kv_B} {Q : kv_Q} {kc ks n : Nat} {S : kv_SM} {I : kv_IM} {a0 : Nat} {v1 : Int32} {v2 : Int32} {v3 : Int32} {a4 : Nat} {a5 : Nat} {dc kcc ksc : Nat} {Qy : kv_Q} {r1 : Nat → Option Nat} (hO1 : S a4 = kO 0 r1) (hM : kv_T y_Row_lastLike dc kcc ksc B [.ref a4, .ref a5] n S I Qy) (hdp : dc + 1 ≤ d) (hkk : kcc ≤ kc) (hkl : ksc ≤ ks) (K : ∀ v n' S' I', Qy v n' S' I' → kv_V y_Cb_alike d B Q (kc - kcc) (ks - ksc) n' S' I' 99 [(0, .ref a0), (1, .int v1), (2, .int v2), (3, .int v3), (4, .ref a4), (5, .ref a5)] (v.toList ++ [])) : kv_V y_Cb_alike d B Q kc ks n S I 92 [(0, .ref a0), (1, .int v1), (2, .int v2), (3, .int v3), (4, .ref a4), (5, .ref a5)] [] := by
  refine kv_aload dd_Cb_alike_92 rfl ?_
  refine kv_aload dd_Cb_alike_94 rfl ?_
  exact kv_callV [.ref a5] [] ls_Cb_132 hO1 hM dd_Cb_alike_96 rfl hdp (Nat.le_of_ble_eq_true rfl) hkk hkl (fun v n' S' I' hv => kv_loc [0, 1, 2, 3, 4, 5] rfl (K v n' S' I' hv))
theorem bl_Cb_alike_99 {d : Nat} {B : kv_B} {Q : kv_Q} {kc ks n : Nat} {S : kv_SM} {I : kv_IM} {a0 : Nat} {v1 : Int32} {v2 : Int32} {v3 : Int32} {a4 : Nat} {a5 : Nat} {t0 : Int32} (hQ : Q (some (.int t0)) n S I) : kv_V y_Cb_alike d B Q kc ks n S I 99 [(0, .ref a0), (1, .int v1), (2, .int v2), (3, .int v3), (4, .ref a4), (5, .ref a5)] [.int t0] := by
  exact kv_end (v := some (.int t0)) hQ ⟨dd_Cb_alike_99, .int, rfl, rfl⟩
theorem bl_Cb_indexedRow_0 {d : Nat} {B : kv_B} {Q : kv_Q} {kc ks n : Nat} {S : kv_SM} {I : kv_IM} {a0 : Nat} {v1 : Int32} {r1 : Nat → Option Nat} {q2 : Nat} {m3 : Nat} {r3 : Nat → Option Nat} {j4 : Nat} {q5 : Nat} {q6 : Nat} {dc kcc ksc : Nat} {Qy : kv_Q} {r7 : Nat → Option Nat} (hO1 : S a0 = kO 5 r1) (hr2 : r1 1 = some q2) (hA3 : S q2 = kA 4 m3 r3) (hi4 : v1 = nI j4 ∧ j4 < m3 ∧ m3 < 2 ^ 31) (he5 : r3 j4 = some q5) (hr6 : r1 0 = some q6) (hO7 : S q5 = kO 4 r7) (hM : kv_T y_Txt_indexBy dc kcc ksc B [.ref q5, .ref q6] n S I Qy) (hdp : dc + 1 ≤ d) (hkk : kcc ≤ kc) (hkl : ksc ≤ ks) (K : ∀ v n' S' I', Qy v n' S' I' → kv_V y_Cb_indexedRow d B Q (kc - kcc) (ks - ksc) n' S' I' 13 [(0, .ref a0), (1, .int v1)] (v.toList ++ [])) : kv_V y_Cb_indexedRow d B Q kc ks n S I 0 [(0, .ref a0), (1, .int v1)] [] := by
  refine kv_aload_n dd_Cb_indexedRow_0 rfl ?_
  refine kv_getR fl_Cb_18 dd_Cb_indexedRow_1 hO1 hr2 ?_
  refine kv_iload_n dd_Cb_indexedRow_4 rfl ?_
  refine kv_aald j4 dd_Cb_indexedRow_5 hA3 ⟨2, _, fun _ => rfl⟩ hi4.1 hi4.2.1 hi4.2.2 he5 ?_
  refine kv_aload_n dd_Cb_indexedRow_6 rfl ?_
  refine kv_getR fl_Cb_10 dd_Cb_indexedRow_7 hO1 hr6 ?_
  exact kv_callV [.ref q6] [] ls_Cb_183 hO7 hM dd_Cb_indexedRow_10 rfl hdp (Nat.le_of_ble_eq_true rfl) hkk hkl (fun v n' S' I' hv => kv_loc [0, 1] rfl (K v n' S' I' hv))
theorem bl_Cb_indexedRow_13 {d : Nat} {B : kv_B} {Q : kv_Q} {kc ks n : Nat} {S : kv_SM} {I : kv_IM} {a0 : Nat} {v1 : Int32} {r1 : Nat → Option Nat} {q2 : Nat} {m3 : Nat} {r3 : Nat → Option Nat} {j4 : Nat} {q5 : Nat} {r6 : Nat → Option Nat} {q7 : Nat} (hO1 : S a0 = kO 5 r1) (hr2 : r1 1 = some q2) (hA3 : S q2 = kA 4 m3 r3) (hi4 : v1 = nI j4 ∧ j4 < m3 ∧ m3 < 2 ^ 31) (he5 : r3 j4 = some q5) (hO6 : S q5 = kO 4 r6) (hr7 : r6 0 = some q7) (hQ : Q (some (.ref q7)) n S I) : kv_V y_Cb_indexedRow d B Q kc ks n S I 13 [(0, .ref a0), (1, .int v1)] [] := by
  refine kv_aload_n dd_Cb_indexedRow_13 rfl ?_
  refine kv_getR fl_Cb_18 dd_Cb_indexedRow_14 hO1 hr2 ?_
  refine kv_iload_n dd_Cb_indexedRow_17 rfl ?_
  refine kv_aald j4 dd_Cb_indexedRow_18 hA3 ⟨2, _, fun _ => rfl⟩ hi4.1 hi4.2.1 hi4.2.2 he5 ?_
  refine kv_getR fl_Cb_73 dd_Cb_indexedRow_19 hO6 hr7 ?_
  exact kv_end (v := some (.ref q7)) hQ ⟨dd_Cb_indexedRow_22, Or.inl ⟨_, rfl⟩⟩
theorem bl_Cb_keep_0 {d : Nat} {B : kv_B} {Q : kv_Q} {kc ks n : Nat} {S : kv_SM} {I : kv_IM} {a0 : Nat} {v1 : Int32} {dc kcc ksc : Nat} {Qy : kv_Q} (hM : kv_T y_Cb_isText dc kcc ksc B [.int v1] n S I Qy) (hdp : dc + 1 ≤ d) (hkk : kcc ≤ kc) (hkl : ksc ≤ ks) (K : ∀ v n' S' I', Qy v n' S' I' → kv_V y_Cb_keep d B Q (kc - kcc) (ks - ksc) n' S' I' 4 [(0, .ref a0), (1, .int v1)] (v.toList ++ [])) : kv_V y_Cb_keep d B Q kc ks n S I 0 [(0, .ref a0), (1, .int v1)] [] := by
  refine kv_iload_n dd_Cb_keep_0 rfl ?_
  exact kv_callS [.int v1] [] ls_Cb_45 hM dd_Cb_keep_1 rfl hdp (Nat.le_of_ble_eq_true rfl) hkk hkl (fun v n' S' I' hv => kv_loc [0, 1] rfl (K v n' S' I' hv))
theorem bl_Cb_keep_4 {d : Nat} {B : kv_B} {Q : kv_Q} {kc ks n : Nat} {S : kv_SM} {I : kv_IM} {a0 : Nat} {v1 : Int32} {t0 : Int32} (Kt : t0 = 0 → kv_V y_Cb_keep d B Q kc ks n S I 22 [(0, .ref a0), (1, .int v1)] []) (Kf : ¬ t0 = 0 → kv_V y_Cb_keep d B Q kc ks n S I 7 [(0, .ref a0), (1, .int v1)] []) : kv_V y_Cb_keep d B Q kc ks n S I 4 [(0, .ref a0), (1, .int v1)] [.int t0] := by
  exact kv_if_eq 22 dd_Cb_keep_4 (by decide) (fun h => kv_loc [0, 1] rfl (Kt h)) (fun h => kv_loc [0, 1] rfl (Kf h))
theorem bl_Cb_keep_7 {d : Nat} {B : kv_B} {Q : kv_Q} {kc ks n : Nat} {S : kv_SM} {I : kv_IM} {a0 : Nat} {v1 : Int32} {r1 : Nat → Option Nat} {q2 : Nat} {dc kcc ksc : Nat} {Qy : kv_Q} (hO1 : S a0 = kO 5 r1) (hr2 : r1 2 = some q2) (hM : kv_T y_Cb_indexedRow dc kcc ksc B [.ref a0, .int v1] n S I Qy) (hdp : dc + 1 ≤ d) (hkk : kcc ≤ kc) (hkl : ksc ≤ ks) (K : ∀ v n' S' I', Qy v n' S' I' → kv_V y_Cb_keep d B Q (kc - kcc) (ks - ksc) n' S' I' 16 [(0, .ref a0), (1, .int v1)] (v.toList ++ [.ref q2])) : kv_V y_Cb_keep d B Q kc ks n S I 7 [(0, .ref a0), (1, .int v1)] [] := by
  refine kv_aload_n dd_Cb_keep_7 rfl ?_
  refine kv_getR fl_Cb_26 dd_Cb_keep_8 hO1 hr2 ?_
  refine kv_aload_n dd_Cb_keep_11 rfl ?_
  refine kv_iload_n dd_Cb_keep_12 rfl ?_
  exact kv_callV [.int v1] [.ref q2] ls_Cb_119 hO1 hM dd_Cb_keep_13 rfl hdp (Nat.le_of_ble_eq_true rfl) hkk hkl (fun v n' S' I' hv => kv_loc [0, 1] rfl (K v n' S' I' hv))
theorem bl_Cb_keep_16 {d : Nat} {B : kv_B} {Q : kv_Q} {kc ks n : Nat} {S : kv_SM} {I : kv_IM} {a0 : Nat} {v1 : Int32} {t0 : Nat} {t1 : Nat} {dc kcc ksc : Nat} {Qy : kv_Q} {r1 : Nat → Option Nat} (hO1 : S t1 = kO 3 r1) (hM : kv_T y_Sto_takeIn dc kcc ksc B [.ref t1, .ref t0] n S I Qy) (hdp : dc + 1 ≤ d) (hkk : kcc ≤ kc) (hkl : ksc ≤ ks) (K : ∀ v n' S' I', Qy v n' S' I' → kv_V y_Cb_keep d B Q (kc - kcc) (ks - ksc) n' S' I' 19 [(0, .ref a0), (1, .int v1)] (v.toList ++ [])) : kv_V y_Cb_keep d B Q kc ks n S I 16 [(0, .ref a0), (1, .int v1)] [.ref t0, .ref t1] := by
  exact kv_callV [.ref t0] [] ls_Cb_135 hO1 hM dd_Cb_keep_16 rfl hdp (Nat.le_of_ble_eq_true rfl) hkk hkl (fun v n' S' I' hv => kv_loc [0, 1] rfl (K v n' S' I' hv))
theorem bl_Cb_keep_19 {d : Nat} {B : kv_B} {Q : kv_Q} {kc ks n : Nat} {S : kv_SM} {I : kv_IM} {a0 : Nat} {v1 : Int32} {t0 : Int32} (K : kv_V y_Cb_keep d B Q kc ks n S I 23 [(0, .ref a0), (1, .int v1)] [.int t0]) : kv_V y_Cb_keep d B Q kc ks n S I 19 [(0, .ref a0), (1, .int v1)] [.int t0] := by
  refine kv_goto 23 dd_Cb_keep_19 (by decide) ?_
  exact kv_loc [0, 1] rfl K
theorem bl_Cb_keep_22 {d : Nat} {B : kv_B} {Q : kv_Q} {kc ks n : Nat} {S : kv_SM} {I : kv_IM} {a0 : Nat} {v1 : Int32} (K : kv_V y_Cb_keep d B Q kc ks n S I 23 [(0, .ref a0), (1, .int v1)] [.int ((-1))]) : kv_V y_Cb_keep d B Q kc ks n S I 22 [(0, .ref a0), (1, .int v1)] [] := by
  refine kv_iconst (v := (-1)) dd_Cb_keep_22 (by decide) ?_
  exact kv_loc [0, 1] rfl K
theorem bl_Cb_keep_23 {d : Nat} {B : kv_B} {Q : kv_Q} {kc ks n : Nat} {S : kv_SM} {I : kv_IM} {a0 : Nat} {v1 : Int32} {t0 : Int32} (hQ : Q (some (.int t0)) n S I) : kv_V y_Cb_keep d B Q kc ks n S I 23 [(0, .ref a0), (1, .int v1)] [.int t0] := by
  exact kv_end (v := some (.int t0)) hQ ⟨dd_Cb_keep_23, .int, rfl, rfl⟩
theorem bl_Cb_drop_0 {d : Nat} {B : kv_B} {Q : kv_Q} {kc ks n : Nat} {S : kv_SM} {I : kv_IM} {a0 : Nat} {v1 : Int32} {r1 : Nat → Option Nat} {q2 : Nat} {dc kcc ksc : Nat} {Qy : kv_Q} {r3 : Nat → Option Nat} (hO1 : S a0 = kO 5 r1) (hr2 : r1 2 = some q2) (hO3 : S q2 = kO 3 r3) (hM : kv_T y_Sto_has dc kcc ksc B [.ref q2, .int v1] n S I Qy) (hdp : dc + 1 ≤ d) (hkk : kcc ≤ kc) (hkl : ksc ≤ ks) (K : ∀ v n' S' I', Qy v n' S' I' → kv_V y_Cb_drop d B Q (kc - kcc) (ks - ksc) n' S' I' 8 [(0, .ref a0), (1, .int v1)] (v.toList ++ [])) : kv_V y_Cb_drop d B Q kc ks n S I 0 [(0, .ref a0), (1, .int v1)] [] := by
  refine kv_aload_n dd_Cb_drop_0 rfl ?_
  refine kv_getR fl_Cb_26 dd_Cb_drop_1 hO1 hr2 ?_
  refine kv_iload_n dd_Cb_drop_4 rfl ?_
  exact kv_callV [.int v1] [] ls_Cb_138 hO3 hM dd_Cb_drop_5 rfl hdp (Nat.le_of_ble_eq_true rfl) hkk hkl (fun v n' S' I' hv => kv_loc [0, 1] rfl (K v n' S' I' hv))
theorem bl_Cb_drop_8 {d : Nat} {B : kv_B} {Q : kv_Q} {kc ks n : Nat} {S : kv_SM} {I : kv_IM} {a0 : Nat} {v1 : Int32} {t0 : Int32} (Kt : t0 = 0 → kv_V y_Cb_drop d B Q kc ks n S I 22 [(0, .ref a0), (1, .int v1)] []) (Kf : ¬ t0 = 0 → kv_V y_Cb_drop d B Q kc ks n S I 11 [(0, .ref a0), (1, .int v1)] []) : kv_V y_Cb_drop d B Q kc ks n S I 8 [(0, .ref a0), (1, .int v1)] [.int t0] := by
  exact kv_if_eq 22 dd_Cb_drop_8 (by decide) (fun h => kv_loc [0, 1] rfl (Kt h)) (fun h => kv_loc [0, 1] rfl (Kf h))
theorem bl_Cb_drop_11 {d : Nat} {B : kv_B} {Q : kv_Q} {kc ks n : Nat} {S : kv_SM} {I : kv_IM} {a0 : Nat} {v1 : Int32} {r1 : Nat → Option Nat} {q2 : Nat} {dc kcc ksc : Nat} {Qy : kv_Q} {r3 : Nat → Option Nat} (hO1 : S a0 = kO 5 r1) (hr2 : r1 2 = some q2) (hO3 : S q2 = kO 3 r3) (hM : kv_T y_Sto_letGo dc kcc ksc B [.ref q2, .int v1] n S I Qy) (hdp : dc + 1 ≤ d) (hkk : kcc ≤ kc) (hkl : ksc ≤ ks) (K : ∀ v n' S' I', Qy v n' S' I' → kv_V y_Cb_drop d B Q (kc - kcc) (ks - ksc) n' S' I' 19 [(0, .ref a0), (1, .int v1)] (v.toList ++ [])) : kv_V y_Cb_drop d B Q kc ks n S I 11 [(0, .ref a0), (1, .int v1)] [] := by
  refine kv_aload_n dd_Cb_drop_11 rfl ?_
  refine kv_getR fl_Cb_26 dd_Cb_drop_12 hO1 hr2 ?_
  refine kv_iload_n dd_Cb_drop_15 rfl ?_
  exact kv_callV [.int v1] [] ls_Cb_141 hO3 hM dd_Cb_drop_16 rfl hdp (Nat.le_of_ble_eq_true rfl) hkk hkl (fun v n' S' I' hv => kv_loc [0, 1] rfl (K v n' S' I' hv))
theorem bl_Cb_drop_19 {d : Nat} {B : kv_B} {Q : kv_Q} {kc ks n : Nat} {S : kv_SM} {I : kv_IM} {a0 : Nat} {v1 : Int32} {t0 : Int32} (K : kv_V y_Cb_drop d B Q kc ks n S I 23 [(0, .ref a0), (1, .int v1)] [.int t0]) : kv_V y_Cb_drop d B Q kc ks n S I 19 [(0, .ref a0), (1, .int v1)] [.int t0] := by
  refine kv_goto 23 dd_Cb_drop_19 (by decide) ?_
  exact kv_loc [0, 1] rfl K
theorem bl_Cb_drop_22 {d : Nat} {B : kv_B} {Q : kv_Q} {kc ks n : Nat} {S : kv_SM} {I : kv_IM} {a0 : Nat} {v1 : Int32} (K : kv_V y_Cb_drop d B Q kc ks n S I 23 [(0, .ref a0), (1, .int v1)] [.int ((-1))]) : kv_V y_Cb_drop d B Q kc ks n S I 22 [(0, .ref a0), (1, .int v1)] [] := by
  refine kv_iconst (v := (-1)) dd_Cb_drop_22 (by decide) ?_
  exact kv_loc [0, 1] rfl K
theorem bl_Cb_drop_23 {d : Nat} {B : kv_B} {Q : kv_Q} {kc ks n : Nat} {S : kv_SM} {I : kv_IM} {a0 : Nat} {v1 : Int32} {t0 : Int32} (hQ : Q (some (.int t0)) n S I) : kv_V y_Cb_drop d B Q kc ks n S I 23 [(0, .ref a0), (1, .int v1)] [.int t0] := by
  exact kv_end (v := some (.int t0)) hQ ⟨dd_Cb_drop_23, .int, rfl, rfl⟩
theorem bl_Cb_restore_0 {d : Nat} {B : kv_B} {Q : kv_Q} {kc ks n : Nat} {S : kv_SM} {I : kv_IM} {a0 : Nat} {v1 : Int32} {v2 : Int32} {r1 : Nat → Option Nat} {q2 : Nat} {dc kcc ksc : Nat} {Qy : kv_Q} {r3 : Nat → Option Nat} (hO1 : S a0 = kO 5 r1) (hr2 : r1 2 = some q2) (hO3 : S q2 = kO 3 r3) (hM : kv_T y_Sto_has dc kcc ksc B [.ref q2, .int v1] n S I Qy) (hdp : dc + 1 ≤ d) (hkk : kcc ≤ kc) (hkl : ksc ≤ ks) (K : ∀ v n' S' I', Qy v n' S' I' → kv_V y_Cb_restore d B Q (kc - kcc) (ks - ksc) n' S' I' 8 [(0, .ref a0), (1, .int v1), (2, .int v2)] (v.toList ++ [])) : kv_V y_Cb_restore d B Q kc ks n S I 0 [(0, .ref a0), (1, .int v1), (2, .int v2)] [] := by
  refine kv_aload_n dd_Cb_restore_0 rfl ?_
  refine kv_getR fl_Cb_26 dd_Cb_restore_1 hO1 hr2 ?_
  refine kv_iload_n dd_Cb_restore_4 rfl ?_
  exact kv_callV [.int v1] [] ls_Cb_138 hO3 hM dd_Cb_restore_5 rfl hdp (Nat.le_of_ble_eq_true rfl) hkk hkl (fun v n' S' I' hv => kv_loc [0, 1, 2] rfl (K v n' S' I' hv))
theorem bl_Cb_restore_8 {d : Nat} {B : kv_B} {Q : kv_Q} {kc ks n : Nat} {S : kv_SM} {I : kv_IM} {a0 : Nat} {v1 : Int32} {v2 : Int32} {t0 : Int32} (Kt : t0 = 0 → kv_V y_Cb_restore d B Q kc ks n S I 18 [(0, .ref a0), (1, .int v1), (2, .int v2)] []) (Kf : ¬ t0 = 0 → kv_V y_Cb_restore d B Q kc ks n S I 11 [(0, .ref a0), (1, .int v1), (2, .int v2)] []) : kv_V y_Cb_restore d B Q kc ks n S I 8 [(0, .ref a0), (1, .int v1), (2, .int v2)] [.int t0] := by
  exact kv_if_eq 18 dd_Cb_restore_8 (by decide) (fun h => kv_loc [0, 1, 2] rfl (Kt h)) (fun h => kv_loc [0, 1, 2] rfl (Kf h))
theorem bl_Cb_restore_11 {d : Nat} {B : kv_B} {Q : kv_Q} {kc ks n : Nat} {S : kv_SM} {I : kv_IM} {a0 : Nat} {v1 : Int32} {v2 : Int32} {dc kcc ksc : Nat} {Qy : kv_Q} (hM : kv_T y_Cb_isText dc kcc ksc B [.int v2] n S I Qy) (hdp : dc + 1 ≤ d) (hkk : kcc ≤ kc) (hkl : ksc ≤ ks) (K : ∀ v n' S' I', Qy v n' S' I' → kv_V y_Cb_restore d B Q (kc - kcc) (ks - ksc) n' S' I' 15 [(0, .ref a0), (1, .int v1), (2, .int v2)] (v.toList ++ [])) : kv_V y_Cb_restore d B Q kc ks n S I 11 [(0, .ref a0), (1, .int v1), (2, .int v2)] [] := by
  refine kv_iload_n dd_Cb_restore_11 rfl ?_
  exact kv_callS [.int v2] [] ls_Cb_45 hM dd_Cb_restore_12 rfl hdp (Nat.le_of_ble_eq_true rfl) hkk hkl (fun v n' S' I' hv => kv_loc [0, 1, 2] rfl (K v n' S' I' hv))
theorem bl_Cb_restore_15 {d : Nat} {B : kv_B} {Q : kv_Q} {kc ks n : Nat} {S : kv_SM} {I : kv_IM} {a0 : Nat} {v1 : Int32} {v2 : Int32} {t0 : Int32} (Kt : ¬ t0 = 0 → kv_V y_Cb_restore d B Q kc ks n S I 20 [(0, .ref a0), (1, .int v1), (2, .int v2)] []) (Kf : t0 = 0 → kv_V y_Cb_restore d B Q kc ks n S I 18 [(0, .ref a0), (1, .int v1), (2, .int v2)] []) : kv_V y_Cb_restore d B Q kc ks n S I 15 [(0, .ref a0), (1, .int v1), (2, .int v2)] [.int t0] := by
  exact kv_if_ne 20 dd_Cb_restore_15 (by decide) (fun h => kv_loc [0, 1, 2] rfl (Kt h)) (fun h => kv_loc [0, 1, 2] rfl (Kf h))
theorem bl_Cb_restore_18 {d : Nat} {B : kv_B} {Q : kv_Q} {kc ks n : Nat} {S : kv_SM} {I : kv_IM} {a0 : Nat} {v1 : Int32} {v2 : Int32} (hQ : Q (some (.int ((-1)))) n S I) : kv_V y_Cb_restore d B Q kc ks n S I 18 [(0, .ref a0), (1, .int v1), (2, .int v2)] [] := by
  refine kv_iconst (v := (-1)) dd_Cb_restore_18 (by decide) ?_
  exact kv_end (v := some (.int ((-1)))) hQ ⟨dd_Cb_restore_19, .int, rfl, rfl⟩
theorem bl_Cb_restore_20 {d : Nat} {B : kv_B} {Q : kv_Q} {kc ks n : Nat} {S : kv_SM} {I : kv_IM} {a0 : Nat} {v1 : Int32} {v2 : Int32} {r1 : Nat → Option Nat} {q2 : Nat} {q3 : Nat} {m4 : Nat} {r4 : Nat → Option Nat} {j5 : Nat} {q6 : Nat} {dc kcc ksc : Nat} {Qy : kv_Q} {r7 : Nat → Option Nat} (hO1 : S a0 = kO 5 r1) (hr2 : r1 2 = some q2) (hr3 : r1 1 = some q3) (hA4 : S q3 = kA 4 m4 r4) (hi5 : v2 = nI j5 ∧ j5 < m4 ∧ m4 < 2 ^ 31) (he6 : r4 j5 = some q6) (hO7 : S q2 = kO 3 r7) (hM : kv_T y_Sto_giveBack dc kcc ksc B [.ref q2, .int v1, .ref q6] n S I Qy) (hdp : dc + 1 ≤ d) (hkk : kcc ≤ kc) (hkl : ksc ≤ ks) (K : ∀ v n' S' I', Qy v n' S' I' → kv_V y_Cb_restore d B Q (kc - kcc) (ks - ksc) n' S' I' 34 [(0, .ref a0), (1, .int v1), (2, .int v2)] (v.toList ++ [])) : kv_V y_Cb_restore d B Q kc ks n S I 20 [(0, .ref a0), (1, .int v1), (2, .int v2)] [] := by
  refine kv_aload_n dd_Cb_restore_20 rfl ?_
  refine kv_getR fl_Cb_26 dd_Cb_restore_21 hO1 hr2 ?_
  refine kv_iload_n dd_Cb_restore_24 rfl ?_
  refine kv_aload_n dd_Cb_restore_25 rfl ?_
  refine kv_getR fl_Cb_18 dd_Cb_restore_26 hO1 hr3 ?_
  refine kv_iload_n dd_Cb_restore_29 rfl ?_
  refine kv_aald j5 dd_Cb_restore_30 hA4 ⟨2, _, fun _ => rfl⟩ hi5.1 hi5.2.1 hi5.2.2 he6 ?_
  exact kv_callV [.int v1, .ref q6] [] ls_Cb_144 hO7 hM dd_Cb_restore_31 rfl hdp (Nat.le_of_ble_eq_true rfl) hkk hkl (fun v n' S' I' hv => kv_loc [0, 1, 2] rfl (K v n' S' I' hv))
theorem bl_Cb_restore_34 {d : Nat} {B : kv_B} {Q : kv_Q} {kc ks n : Nat} {S : kv_SM} {I : kv_IM} {a0 : Nat} {v1 : Int32} {v2 : Int32} {t0 : Int32} (hQ : Q (some (.int t0)) n S I) : kv_V y_Cb_restore d B Q kc ks n S I 34 [(0, .ref a0), (1, .int v1), (2, .int v2)] [.int t0] := by
  exact kv_end (v := some (.int t0)) hQ ⟨dd_Cb_restore_34, .int, rfl, rfl⟩
theorem bl_Cb_told_0 {d : Nat} {B : kv_B} {Q : kv_Q} {kc ks n : Nat} {S : kv_SM} {I : kv_IM} {a0 : Nat} {v1 : Int32} {v2 : Int32} {r1 : Nat → Option Nat} {q2 : Nat} {dc kcc ksc : Nat} {Qy : kv_Q} {r3 : Nat → Option Nat} (hO1 : S a0 = kO 5 r1) (hr2 : r1 2 = some q2) (hO3 : S q2 = kO 3 r3) (hM : kv_T y_Sto_has dc kcc ksc B [.ref q2, .int v1] n S I Qy) (hdp : dc + 1 ≤ d) (hkk : kcc ≤ kc) (hkl : ksc ≤ ks) (K : ∀ v n' S' I', Qy v n' S' I' → kv_V y_Cb_told d B Q (kc - kcc) (ks - ksc) n' S' I' 8 [(0, .ref a0), (1, .int v1), (2, .int v2)] (v.toList ++ [])) : kv_V y_Cb_told d B Q kc ks n S I 0 [(0, .ref a0), (1, .int v1), (2, .int v2)] [] := by
  refine kv_aload_n dd_Cb_told_0 rfl ?_
  refine kv_getR fl_Cb_26 dd_Cb_told_1 hO1 hr2 ?_
  refine kv_iload_n dd_Cb_told_4 rfl ?_
  exact kv_callV [.int v1] [] ls_Cb_138 hO3 hM dd_Cb_told_5 rfl hdp (Nat.le_of_ble_eq_true rfl) hkk hkl (fun v n' S' I' hv => kv_loc [0, 1, 2] rfl (K v n' S' I' hv))
theorem bl_Cb_told_8 {d : Nat} {B : kv_B} {Q : kv_Q} {kc ks n : Nat} {S : kv_SM} {I : kv_IM} {a0 : Nat} {v1 : Int32} {v2 : Int32} {t0 : Int32} (Kt : t0 = 0 → kv_V y_Cb_told d B Q kc ks n S I 20 [(0, .ref a0), (1, .int v1), (2, .int v2)] []) (Kf : ¬ t0 = 0 → kv_V y_Cb_told d B Q kc ks n S I 11 [(0, .ref a0), (1, .int v1), (2, .int v2)] []) : kv_V y_Cb_told d B Q kc ks n S I 8 [(0, .ref a0), (1, .int v1), (2, .int v2)] [.int t0] := by
  exact kv_if_eq 20 dd_Cb_told_8 (by decide) (fun h => kv_loc [0, 1, 2] rfl (Kt h)) (fun h => kv_loc [0, 1, 2] rfl (Kf h))
theorem bl_Cb_told_11 {d : Nat} {B : kv_B} {Q : kv_Q} {kc ks n : Nat} {S : kv_SM} {I : kv_IM} {a0 : Nat} {v1 : Int32} {v2 : Int32} (Kt : v2 < 0 → kv_V y_Cb_told d B Q kc ks n S I 20 [(0, .ref a0), (1, .int v1), (2, .int v2)] []) (Kf : ¬ v2 < 0 → kv_V y_Cb_told d B Q kc ks n S I 15 [(0, .ref a0), (1, .int v1), (2, .int v2)] []) : kv_V y_Cb_told d B Q kc ks n S I 11 [(0, .ref a0), (1, .int v1), (2, .int v2)] [] := by
  refine kv_iload_n dd_Cb_told_11 rfl ?_
  exact kv_if_lt 20 dd_Cb_told_12 (by decide) (fun h => kv_loc [0, 1, 2] rfl (Kt h)) (fun h => kv_loc [0, 1, 2] rfl (Kf h))
theorem bl_Cb_told_15 {d : Nat} {B : kv_B} {Q : kv_Q} {kc ks n : Nat} {S : kv_SM} {I : kv_IM} {a0 : Nat} {v1 : Int32} {v2 : Int32} (Kt : v2 ≤ 1 → kv_V y_Cb_told d B Q kc ks n S I 22 [(0, .ref a0), (1, .int v1), (2, .int v2)] []) (Kf : ¬ v2 ≤ 1 → kv_V y_Cb_told d B Q kc ks n S I 20 [(0, .ref a0), (1, .int v1), (2, .int v2)] []) : kv_V y_Cb_told d B Q kc ks n S I 15 [(0, .ref a0), (1, .int v1), (2, .int v2)] [] := by
  refine kv_iload_n dd_Cb_told_15 rfl ?_
  refine kv_iconst (v := 1) dd_Cb_told_16 (by decide) ?_
  exact kv_icmp_le 22 dd_Cb_told_17 (by decide) (fun h => kv_loc [0, 1, 2] rfl (Kt h)) (fun h => kv_loc [0, 1, 2] rfl (Kf h))
theorem bl_Cb_told_20 {d : Nat} {B : kv_B} {Q : kv_Q} {kc ks n : Nat} {S : kv_SM} {I : kv_IM} {a0 : Nat} {v1 : Int32} {v2 : Int32} (hQ : Q (some (.int ((-1)))) n S I) : kv_V y_Cb_told d B Q kc ks n S I 20 [(0, .ref a0), (1, .int v1), (2, .int v2)] [] := by
  refine kv_iconst (v := (-1)) dd_Cb_told_20 (by decide) ?_
  exact kv_end (v := some (.int ((-1)))) hQ ⟨dd_Cb_told_21, .int, rfl, rfl⟩
theorem bl_Cb_told_22 {d : Nat} {B : kv_B} {Q : kv_Q} {kc ks n : Nat} {S : kv_SM} {I : kv_IM} {a0 : Nat} {v1 : Int32} {v2 : Int32} {r1 : Nat → Option Nat} {q2 : Nat} {r3 : Nat → Option Nat} {q4 : Nat} {m5 : Nat} {r5 : Nat → Option Nat} {j6 : Nat} {q7 : Nat} (hO1 : S a0 = kO 5 r1) (hr2 : r1 2 = some q2) (hO3 : S q2 = kO 3 r3) (hr4 : r3 3 = some q4) (hA5 : S q4 = kA 2 m5 r5) (hi6 : v1 = nI j6 ∧ j6 < m5 ∧ m5 < 2 ^ 31) (he7 : r5 j6 = some q7) (Kt : ¬ v2 = 0 → kv_V y_Cb_told d B Q kc ks n S I 43 [(0, .ref a0), (1, .int v1), (2, .int v2), (3, .ref q7)] []) (Kf : v2 = 0 → kv_V y_Cb_told d B Q kc ks n S I 36 [(0, .ref a0), (1, .int v1), (2, .int v2), (3, .ref q7)] []) : kv_V y_Cb_told d B Q kc ks n S I 22 [(0, .ref a0), (1, .int v1), (2, .int v2)] [] := by
  refine kv_aload_n dd_Cb_told_22 rfl ?_
  refine kv_getR fl_Cb_26 dd_Cb_told_23 hO1 hr2 ?_
  refine kv_getR fl_Cb_148 dd_Cb_told_26 hO3 hr4 ?_
  refine kv_iload_n dd_Cb_told_29 rfl ?_
  refine kv_aald j6 dd_Cb_told_30 hA5 ⟨3, _, fun _ => rfl⟩ hi6.1 hi6.2.1 hi6.2.2 he7 ?_
  refine kv_astore_n (L' := [(3, .ref q7), (0, .ref a0), (1, .int v1), (2, .int v2)]) dd_Cb_told_31 (by decide) rfl ?_
  refine kv_iload_n dd_Cb_told_32 rfl ?_
  exact kv_if_ne 43 dd_Cb_told_33 (by decide) (fun h => kv_loc [1, 2, 3, 0] rfl (Kt h)) (fun h => kv_loc [1, 2, 3, 0] rfl (Kf h))
theorem bl_Cb_told_36 {d : Nat} {B : kv_B} {Q : kv_Q} {kc ks n : Nat} {S : kv_SM} {I : kv_IM} {a0 : Nat} {v1 : Int32} {v2 : Int32} {a3 : Nat} {r1 : Nat → Option Nat} (hO1 : S a3 = kO 2 r1) (K : kv_V y_Cb_told d B Q kc ks n S I 47 [(0, .ref a0), (1, .int v1), (2, .int v2), (3, .ref a3)] [.int (I a3 1)]) : kv_V y_Cb_told d B Q kc ks n S I 36 [(0, .ref a0), (1, .int v1), (2, .int v2), (3, .ref a3)] [] := by
  refine kv_aload_n dd_Cb_told_36 rfl ?_
  refine kv_getI fl_Cb_152 dd_Cb_told_37 hO1 ?_
  refine kv_goto 47 dd_Cb_told_40 (by decide) ?_
  exact kv_loc [0, 1, 2, 3] rfl K
theorem bl_Cb_told_43 {d : Nat} {B : kv_B} {Q : kv_Q} {kc ks n : Nat} {S : kv_SM} {I : kv_IM} {a0 : Nat} {v1 : Int32} {v2 : Int32} {a3 : Nat} {r1 : Nat → Option Nat} (hO1 : S a3 = kO 2 r1) (K : kv_V y_Cb_told d B Q kc ks n S I 47 [(0, .ref a0), (1, .int v1), (2, .int v2), (3, .ref a3)] [.int (I a3 2)]) : kv_V y_Cb_told d B Q kc ks n S I 43 [(0, .ref a0), (1, .int v1), (2, .int v2), (3, .ref a3)] [] := by
  refine kv_aload_n dd_Cb_told_43 rfl ?_
  refine kv_getI fl_Cb_155 dd_Cb_told_44 hO1 ?_
  exact kv_loc [0, 1, 2, 3] rfl K
theorem bl_Cb_told_47 {d : Nat} {B : kv_B} {Q : kv_Q} {kc ks n : Nat} {S : kv_SM} {I : kv_IM} {a0 : Nat} {v1 : Int32} {v2 : Int32} {a3 : Nat} {t0 : Int32} (hQ : Q (some (.int t0)) n S I) : kv_V y_Cb_told d B Q kc ks n S I 47 [(0, .ref a0), (1, .int v1), (2, .int v2), (3, .ref a3)] [.int t0] := by
  exact kv_end (v := some (.int t0)) hQ ⟨dd_Cb_told_47, .int, rfl, rfl⟩
theorem bl_Cb_uses_0 {d : Nat} {B : kv_B} {Q : kv_Q} {kc ks n : Nat} {S : kv_SM} {I : kv_IM} {a0 : Nat} {v1 : Int32} {v2 : Int32} {dc kcc ksc : Nat} {Qy : kv_Q} {r1 : Nat → Option Nat} (hO1 : S a0 = kO 5 r1) (hM : kv_T y_Cb_hasBlock dc kcc ksc B [.ref a0, .int v1, .int v2] n S I Qy) (hdp : dc + 1 ≤ d) (hkk : kcc ≤ kc) (hkl : ksc ≤ ks) (K : ∀ v n' S' I', Qy v n' S' I' → kv_V y_Cb_uses d B Q (kc - kcc) (ks - ksc) n' S' I' 6 [(0, .ref a0), (1, .int v1), (2, .int v2)] (v.toList ++ [])) : kv_V y_Cb_uses d B Q kc ks n S I 0 [(0, .ref a0), (1, .int v1), (2, .int v2)] [] := by
  refine kv_aload_n dd_Cb_uses_0 rfl ?_
  refine kv_iload_n dd_Cb_uses_1 rfl ?_
  refine kv_iload_n dd_Cb_uses_2 rfl ?_
  exact kv_callV [.int v1, .int v2] [] ls_Cb_90 hO1 hM dd_Cb_uses_3 rfl hdp (Nat.le_of_ble_eq_true rfl) hkk hkl (fun v n' S' I' hv => kv_loc [0, 1, 2] rfl (K v n' S' I' hv))
theorem bl_Cb_uses_6 {d : Nat} {B : kv_B} {Q : kv_Q} {kc ks n : Nat} {S : kv_SM} {I : kv_IM} {a0 : Nat} {v1 : Int32} {v2 : Int32} {t0 : Int32} (Kt : t0 = 0 → kv_V y_Cb_uses d B Q kc ks n S I 25 [(0, .ref a0), (1, .int v1), (2, .int v2)] []) (Kf : ¬ t0 = 0 → kv_V y_Cb_uses d B Q kc ks n S I 9 [(0, .ref a0), (1, .int v1), (2, .int v2)] []) : kv_V y_Cb_uses d B Q kc ks n S I 6 [(0, .ref a0), (1, .int v1), (2, .int v2)] [.int t0] := by
  exact kv_if_eq 25 dd_Cb_uses_6 (by decide) (fun h => kv_loc [0, 1, 2] rfl (Kt h)) (fun h => kv_loc [0, 1, 2] rfl (Kf h))
theorem bl_Cb_uses_9 {d : Nat} {B : kv_B} {Q : kv_Q} {kc ks n : Nat} {S : kv_SM} {I : kv_IM} {a0 : Nat} {v1 : Int32} {v2 : Int32} {r1 : Nat → Option Nat} {q2 : Nat} {dc kcc ksc : Nat} {Qy : kv_Q} (hO1 : S a0 = kO 5 r1) (hr2 : r1 2 = some q2) (hM : kv_T y_Cb_indexedRow dc kcc ksc B [.ref a0, .int v1] n S I Qy) (hdp : dc + 1 ≤ d) (hkk : kcc ≤ kc) (hkl : ksc ≤ ks) (K : ∀ v n' S' I', Qy v n' S' I' → kv_V y_Cb_uses d B Q (kc - kcc) (ks - ksc) n' S' I' 18 [(0, .ref a0), (1, .int v1), (2, .int v2)] (v.toList ++ [.ref q2])) : kv_V y_Cb_uses d B Q kc ks n S I 9 [(0, .ref a0), (1, .int v1), (2, .int v2)] [] := by
  refine kv_aload_n dd_Cb_uses_9 rfl ?_
  refine kv_getR fl_Cb_26 dd_Cb_uses_10 hO1 hr2 ?_
  refine kv_aload_n dd_Cb_uses_13 rfl ?_
  refine kv_iload_n dd_Cb_uses_14 rfl ?_
  exact kv_callV [.int v1] [.ref q2] ls_Cb_119 hO1 hM dd_Cb_uses_15 rfl hdp (Nat.le_of_ble_eq_true rfl) hkk hkl (fun v n' S' I' hv => kv_loc [0, 1, 2] rfl (K v n' S' I' hv))
theorem bl_Cb_uses_18 {d : Nat} {B : kv_B} {Q : kv_Q} {kc ks n : Nat} {S : kv_SM} {I : kv_IM} {a0 : Nat} {v1 : Int32} {v2 : Int32} {t0 : Nat} {t1 : Nat} {dc kcc ksc : Nat} {Qy : kv_Q} {r1 : Nat → Option Nat} (hO1 : S t1 = kO 3 r1) (hM : kv_T y_Sto_placesOf dc kcc ksc B [.ref t1, .ref t0, .int v2] n S I Qy) (hdp : dc + 1 ≤ d) (hkk : kcc ≤ kc) (hkl : ksc ≤ ks) (K : ∀ v n' S' I', Qy v n' S' I' → kv_V y_Cb_uses d B Q (kc - kcc) (ks - ksc) n' S' I' 22 [(0, .ref a0), (1, .int v1), (2, .int v2)] (v.toList ++ [])) : kv_V y_Cb_uses d B Q kc ks n S I 18 [(0, .ref a0), (1, .int v1), (2, .int v2)] [.ref t0, .ref t1] := by
  refine kv_iload_n dd_Cb_uses_18 rfl ?_
  exact kv_callV [.ref t0, .int v2] [] ls_Cb_156 hO1 hM dd_Cb_uses_19 rfl hdp (Nat.le_of_ble_eq_true rfl) hkk hkl (fun v n' S' I' hv => kv_loc [0, 1, 2] rfl (K v n' S' I' hv))
theorem bl_Cb_uses_22 {d : Nat} {B : kv_B} {Q : kv_Q} {kc ks n : Nat} {S : kv_SM} {I : kv_IM} {a0 : Nat} {v1 : Int32} {v2 : Int32} {t0 : Int32} (K : kv_V y_Cb_uses d B Q kc ks n S I 26 [(0, .ref a0), (1, .int v1), (2, .int v2)] [.int t0]) : kv_V y_Cb_uses d B Q kc ks n S I 22 [(0, .ref a0), (1, .int v1), (2, .int v2)] [.int t0] := by
  refine kv_goto 26 dd_Cb_uses_22 (by decide) ?_
  exact kv_loc [0, 1, 2] rfl K
theorem bl_Cb_uses_25 {d : Nat} {B : kv_B} {Q : kv_Q} {kc ks n : Nat} {S : kv_SM} {I : kv_IM} {a0 : Nat} {v1 : Int32} {v2 : Int32} (K : kv_V y_Cb_uses d B Q kc ks n S I 26 [(0, .ref a0), (1, .int v1), (2, .int v2)] [.int ((-1))]) : kv_V y_Cb_uses d B Q kc ks n S I 25 [(0, .ref a0), (1, .int v1), (2, .int v2)] [] := by
  refine kv_iconst (v := (-1)) dd_Cb_uses_25 (by decide) ?_
  exact kv_loc [0, 1, 2] rfl K
theorem bl_Cb_uses_26 {d : Nat} {B : kv_B} {Q : kv_Q} {kc ks n : Nat} {S : kv_SM} {I : kv_IM} {a0 : Nat} {v1 : Int32} {v2 : Int32} {t0 : Int32} (hQ : Q (some (.int t0)) n S I) : kv_V y_Cb_uses d B Q kc ks n S I 26 [(0, .ref a0), (1, .int v1), (2, .int v2)] [.int t0] := by
  exact kv_end (v := some (.int t0)) hQ ⟨dd_Cb_uses_26, .int, rfl, rfl⟩
theorem bl_Cb_kept_0 {d : Nat} {B : kv_B} {Q : kv_Q} {kc ks n : Nat} {S : kv_SM} {I : kv_IM} {a0 : Nat} {v1 : Int32} (K0 : v1 = nI 0 → kv_V y_Cb_kept d B Q kc ks n S I 40 [(0, .ref a0), (1, .int v1)] []) (K1 : v1 = nI 1 → kv_V y_Cb_kept d B Q kc ks n S I 48 [(0, .ref a0), (1, .int v1)] []) (K2 : v1 = nI 2 → kv_V y_Cb_kept d B Q kc ks n S I 59 [(0, .ref a0), (1, .int v1)] []) (K3 : v1 = nI 3 → kv_V y_Cb_kept d B Q kc ks n S I 70 [(0, .ref a0), (1, .int v1)] []) (K4 : v1 = nI 4 → kv_V y_Cb_kept d B Q kc ks n S I 78 [(0, .ref a0), (1, .int v1)] []) (K5 : v1 = nI 5 → kv_V y_Cb_kept d B Q kc ks n S I 89 [(0, .ref a0), (1, .int v1)] []) (Kd : (∀ k : Nat, k < 6 → ¬ v1 = nI k) → kv_V y_Cb_kept d B Q kc ks n S I 100 [(0, .ref a0), (1, .int v1)] []) : kv_V y_Cb_kept d B Q kc ks n S I 0 [(0, .ref a0), (1, .int v1)] [] := by
  refine kv_iload_n dd_Cb_kept_0 rfl ?_
  refine kv_table 6 100 dd_Cb_kept_1 rfl (by decide) (fun k hk hx => ?_) (by decide) (fun h => kv_loc [0, 1] rfl (Kd h))
  match k, hk with
  | 0, _ => exact ⟨_, 40, rfl, by decide, kv_loc [0, 1] rfl (K0 hx)⟩
  | 1, _ => exact ⟨_, 48, rfl, by decide, kv_loc [0, 1] rfl (K1 hx)⟩
  | 2, _ => exact ⟨_, 59, rfl, by decide, kv_loc [0, 1] rfl (K2 hx)⟩
  | 3, _ => exact ⟨_, 70, rfl, by decide, kv_loc [0, 1] rfl (K3 hx)⟩
  | 4, _ => exact ⟨_, 78, rfl, by decide, kv_loc [0, 1] rfl (K4 hx)⟩
  | 5, _ => exact ⟨_, 89, rfl, by decide, kv_loc [0, 1] rfl (K5 hx)⟩
  | k + 6, h => exact absurd h (by omega)
theorem bl_Cb_kept_40 {d : Nat} {B : kv_B} {Q : kv_Q} {kc ks n : Nat} {S : kv_SM} {I : kv_IM} {a0 : Nat} {v1 : Int32} {r1 : Nat → Option Nat} {q2 : Nat} {dc kcc ksc : Nat} {Qy : kv_Q} {r3 : Nat → Option Nat} (hO1 : S a0 = kO 5 r1) (hr2 : r1 2 = some q2) (hO3 : S q2 = kO 3 r3) (hM : kv_T y_Sto_snapshotsThere dc kcc ksc B [.ref q2] n S I Qy) (hdp : dc + 1 ≤ d) (hkk : kcc ≤ kc) (hkl : ksc ≤ ks) (K : ∀ v n' S' I', Qy v n' S' I' → kv_V y_Cb_kept d B Q (kc - kcc) (ks - ksc) n' S' I' 47 [(0, .ref a0), (1, .int v1)] (v.toList ++ [])) : kv_V y_Cb_kept d B Q kc ks n S I 40 [(0, .ref a0), (1, .int v1)] [] := by
  refine kv_aload_n dd_Cb_kept_40 rfl ?_
  refine kv_getR fl_Cb_26 dd_Cb_kept_41 hO1 hr2 ?_
  exact kv_callV [] [] ls_Cb_160 hO3 hM dd_Cb_kept_44 rfl hdp (Nat.le_of_ble_eq_true rfl) hkk hkl (fun v n' S' I' hv => kv_loc [0, 1] rfl (K v n' S' I' hv))
theorem bl_Cb_kept_47 {d : Nat} {B : kv_B} {Q : kv_Q} {kc ks n : Nat} {S : kv_SM} {I : kv_IM} {a0 : Nat} {v1 : Int32} {t0 : Int32} (hQ : Q (some (.int t0)) n S I) : kv_V y_Cb_kept d B Q kc ks n S I 47 [(0, .ref a0), (1, .int v1)] [.int t0] := by
  exact kv_end (v := some (.int t0)) hQ ⟨dd_Cb_kept_47, .int, rfl, rfl⟩
theorem bl_Cb_kept_48 {d : Nat} {B : kv_B} {Q : kv_Q} {kc ks n : Nat} {S : kv_SM} {I : kv_IM} {a0 : Nat} {v1 : Int32} {r1 : Nat → Option Nat} {q2 : Nat} {r3 : Nat → Option Nat} {q4 : Nat} {r5 : Nat → Option Nat} (hO1 : S a0 = kO 5 r1) (hr2 : r1 2 = some q2) (hO3 : S q2 = kO 3 r3) (hr4 : r3 0 = some q4) (hO5 : S q4 = kO 0 r5) (hQ : Q (some (.int (I q4 5))) n S I) : kv_V y_Cb_kept d B Q kc ks n S I 48 [(0, .ref a0), (1, .int v1)] [] := by
  refine kv_aload_n dd_Cb_kept_48 rfl ?_
  refine kv_getR fl_Cb_26 dd_Cb_kept_49 hO1 hr2 ?_
  refine kv_getR fl_Cb_164 dd_Cb_kept_52 hO3 hr4 ?_
  refine kv_getI fl_Cb_87 dd_Cb_kept_55 hO5 ?_
  exact kv_end (v := some (.int (I q4 5))) hQ ⟨dd_Cb_kept_58, .int, rfl, rfl⟩
theorem bl_Cb_kept_59 {d : Nat} {B : kv_B} {Q : kv_Q} {kc ks n : Nat} {S : kv_SM} {I : kv_IM} {a0 : Nat} {v1 : Int32} {r1 : Nat → Option Nat} {q2 : Nat} {r3 : Nat → Option Nat} {q4 : Nat} {dc kcc ksc : Nat} {Qy : kv_Q} {r5 : Nat → Option Nat} (hO1 : S a0 = kO 5 r1) (hr2 : r1 2 = some q2) (hO3 : S q2 = kO 3 r3) (hr4 : r3 0 = some q4) (hO5 : S q4 = kO 0 r5) (hM : kv_T y_Row_end dc kcc ksc B [.ref q4] n S I Qy) (hdp : dc + 1 ≤ d) (hkk : kcc ≤ kc) (hkl : ksc ≤ ks) (K : ∀ v n' S' I', Qy v n' S' I' → kv_V y_Cb_kept d B Q (kc - kcc) (ks - ksc) n' S' I' 69 [(0, .ref a0), (1, .int v1)] (v.toList ++ [])) : kv_V y_Cb_kept d B Q kc ks n S I 59 [(0, .ref a0), (1, .int v1)] [] := by
  refine kv_aload_n dd_Cb_kept_59 rfl ?_
  refine kv_getR fl_Cb_26 dd_Cb_kept_60 hO1 hr2 ?_
  refine kv_getR fl_Cb_164 dd_Cb_kept_63 hO3 hr4 ?_
  exact kv_callV [] [] ls_Cb_165 hO5 hM dd_Cb_kept_66 rfl hdp (Nat.le_of_ble_eq_true rfl) hkk hkl (fun v n' S' I' hv => kv_loc [0, 1] rfl (K v n' S' I' hv))
theorem bl_Cb_kept_69 {d : Nat} {B : kv_B} {Q : kv_Q} {kc ks n : Nat} {S : kv_SM} {I : kv_IM} {a0 : Nat} {v1 : Int32} {t0 : Int32} (hQ : Q (some (.int t0)) n S I) : kv_V y_Cb_kept d B Q kc ks n S I 69 [(0, .ref a0), (1, .int v1)] [.int t0] := by
  exact kv_end (v := some (.int t0)) hQ ⟨dd_Cb_kept_69, .int, rfl, rfl⟩
theorem bl_Cb_kept_70 {d : Nat} {B : kv_B} {Q : kv_Q} {kc ks n : Nat} {S : kv_SM} {I : kv_IM} {a0 : Nat} {v1 : Int32} {r1 : Nat → Option Nat} {q2 : Nat} {dc kcc ksc : Nat} {Qy : kv_Q} {r3 : Nat → Option Nat} (hO1 : S a0 = kO 5 r1) (hr2 : r1 2 = some q2) (hO3 : S q2 = kO 3 r3) (hM : kv_T y_Sto_allPlaces dc kcc ksc B [.ref q2] n S I Qy) (hdp : dc + 1 ≤ d) (hkk : kcc ≤ kc) (hkl : ksc ≤ ks) (K : ∀ v n' S' I', Qy v n' S' I' → kv_V y_Cb_kept d B Q (kc - kcc) (ks - ksc) n' S' I' 77 [(0, .ref a0), (1, .int v1)] (v.toList ++ [])) : kv_V y_Cb_kept d B Q kc ks n S I 70 [(0, .ref a0), (1, .int v1)] [] := by
  refine kv_aload_n dd_Cb_kept_70 rfl ?_
  refine kv_getR fl_Cb_26 dd_Cb_kept_71 hO1 hr2 ?_
  exact kv_callV [] [] ls_Cb_168 hO3 hM dd_Cb_kept_74 rfl hdp (Nat.le_of_ble_eq_true rfl) hkk hkl (fun v n' S' I' hv => kv_loc [0, 1] rfl (K v n' S' I' hv))
theorem bl_Cb_kept_77 {d : Nat} {B : kv_B} {Q : kv_Q} {kc ks n : Nat} {S : kv_SM} {I : kv_IM} {a0 : Nat} {v1 : Int32} {t0 : Int32} (hQ : Q (some (.int t0)) n S I) : kv_V y_Cb_kept d B Q kc ks n S I 77 [(0, .ref a0), (1, .int v1)] [.int t0] := by
  exact kv_end (v := some (.int t0)) hQ ⟨dd_Cb_kept_77, .int, rfl, rfl⟩
theorem bl_Cb_kept_78 {d : Nat} {B : kv_B} {Q : kv_Q} {kc ks n : Nat} {S : kv_SM} {I : kv_IM} {a0 : Nat} {v1 : Int32} {r1 : Nat → Option Nat} {q2 : Nat} {r3 : Nat → Option Nat} {q4 : Nat} {dc kcc ksc : Nat} {Qy : kv_Q} {r5 : Nat → Option Nat} (hO1 : S a0 = kO 5 r1) (hr2 : r1 2 = some q2) (hO3 : S q2 = kO 3 r3) (hr4 : r3 0 = some q4) (hO5 : S q4 = kO 0 r5) (hM : kv_T y_Row_pairsOfOneKey dc kcc ksc B [.ref q4] n S I Qy) (hdp : dc + 1 ≤ d) (hkk : kcc ≤ kc) (hkl : ksc ≤ ks) (K : ∀ v n' S' I', Qy v n' S' I' → kv_V y_Cb_kept d B Q (kc - kcc) (ks - ksc) n' S' I' 88 [(0, .ref a0), (1, .int v1)] (v.toList ++ [])) : kv_V y_Cb_kept d B Q kc ks n S I 78 [(0, .ref a0), (1, .int v1)] [] := by
  refine kv_aload_n dd_Cb_kept_78 rfl ?_
  refine kv_getR fl_Cb_26 dd_Cb_kept_79 hO1 hr2 ?_
  refine kv_getR fl_Cb_164 dd_Cb_kept_82 hO3 hr4 ?_
  exact kv_callV [] [] ls_Cb_171 hO5 hM dd_Cb_kept_85 rfl hdp (Nat.le_of_ble_eq_true rfl) hkk hkl (fun v n' S' I' hv => kv_loc [0, 1] rfl (K v n' S' I' hv))
theorem bl_Cb_kept_88 {d : Nat} {B : kv_B} {Q : kv_Q} {kc ks n : Nat} {S : kv_SM} {I : kv_IM} {a0 : Nat} {v1 : Int32} {t0 : Int32} (hQ : Q (some (.int t0)) n S I) : kv_V y_Cb_kept d B Q kc ks n S I 88 [(0, .ref a0), (1, .int v1)] [.int t0] := by
  exact kv_end (v := some (.int t0)) hQ ⟨dd_Cb_kept_88, .int, rfl, rfl⟩
theorem bl_Cb_kept_89 {d : Nat} {B : kv_B} {Q : kv_Q} {kc ks n : Nat} {S : kv_SM} {I : kv_IM} {a0 : Nat} {v1 : Int32} {r1 : Nat → Option Nat} {q2 : Nat} {r3 : Nat → Option Nat} {q4 : Nat} {dc kcc ksc : Nat} {Qy : kv_Q} {r5 : Nat → Option Nat} (hO1 : S a0 = kO 5 r1) (hr2 : r1 2 = some q2) (hO3 : S q2 = kO 3 r3) (hr4 : r3 0 = some q4) (hO5 : S q4 = kO 0 r5) (hM : kv_T y_Row_mostOfOneKey dc kcc ksc B [.ref q4] n S I Qy) (hdp : dc + 1 ≤ d) (hkk : kcc ≤ kc) (hkl : ksc ≤ ks) (K : ∀ v n' S' I', Qy v n' S' I' → kv_V y_Cb_kept d B Q (kc - kcc) (ks - ksc) n' S' I' 99 [(0, .ref a0), (1, .int v1)] (v.toList ++ [])) : kv_V y_Cb_kept d B Q kc ks n S I 89 [(0, .ref a0), (1, .int v1)] [] := by
  refine kv_aload_n dd_Cb_kept_89 rfl ?_
  refine kv_getR fl_Cb_26 dd_Cb_kept_90 hO1 hr2 ?_
  refine kv_getR fl_Cb_164 dd_Cb_kept_93 hO3 hr4 ?_
  exact kv_callV [] [] ls_Cb_174 hO5 hM dd_Cb_kept_96 rfl hdp (Nat.le_of_ble_eq_true rfl) hkk hkl (fun v n' S' I' hv => kv_loc [0, 1] rfl (K v n' S' I' hv))
theorem bl_Cb_kept_99 {d : Nat} {B : kv_B} {Q : kv_Q} {kc ks n : Nat} {S : kv_SM} {I : kv_IM} {a0 : Nat} {v1 : Int32} {t0 : Int32} (hQ : Q (some (.int t0)) n S I) : kv_V y_Cb_kept d B Q kc ks n S I 99 [(0, .ref a0), (1, .int v1)] [.int t0] := by
  exact kv_end (v := some (.int t0)) hQ ⟨dd_Cb_kept_99, .int, rfl, rfl⟩
theorem bl_Cb_kept_100 {d : Nat} {B : kv_B} {Q : kv_Q} {kc ks n : Nat} {S : kv_SM} {I : kv_IM} {a0 : Nat} {v1 : Int32} (hQ : Q (some (.int ((-1)))) n S I) : kv_V y_Cb_kept d B Q kc ks n S I 100 [(0, .ref a0), (1, .int v1)] [] := by
  refine kv_iconst (v := (-1)) dd_Cb_kept_100 (by decide) ?_
  exact kv_end (v := some (.int ((-1)))) hQ ⟨dd_Cb_kept_101, .int, rfl, rfl⟩
