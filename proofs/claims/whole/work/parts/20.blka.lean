theorem bl_Rul_init_0 {d : Nat} {B : kv_B} {Q : kv_Q} {kc ks n : Nat} {S : kv_SM} {I : kv_IM} {a0 : Nat} {r2 : Nat → Option Nat} {dc kcc ksc : Nat} {Qy : kv_Q} {r3 : Nat → Option Nat} (hd1 : 1 ≤ d) (hk1 : 1 ≤ kc) (hs1 : 256 ≤ ks) (hO2 : (kv_su S (B.1 + n) (kI 256)) a0 = kO 1 r2) (hO3 : (kv_su (kv_su S (B.1 + n) (kI 256)) a0 (kO 1 (kv_ru r2 0 (some (B.1 + n))))) a0 = kO 1 r3) (hM : kv_T y_Rul_sow dc kcc ksc B [.ref a0, .int 1] (n + 1) (kv_su (kv_su S (B.1 + n) (kI 256)) a0 (kO 1 (kv_ru r2 0 (some (B.1 + n))))) (kv_iu I (B.1 + n) (fun _ => 0)) Qy) (hdp : dc + 1 ≤ d) (hkk : kcc ≤ kc - 1) (hkl : ksc ≤ ks - 256) (K : ∀ v n' S' I', Qy v n' S' I' → kv_V y_Rul_init d B Q (kc - 1 - kcc) (ks - 256 - ksc) n' S' I' 18 [(0, .ref a0)] (v.toList ++ [])) : kv_V y_Rul_init d B Q kc ks n S I 0 [(0, .ref a0)] [] := by
  refine kv_aload_n dd_Rul_init_0 rfl ?_
  refine kv_objInit wm_Rul_3 wo_in wo_code dd_Rul_init_1 hd1 (Nat.le_of_ble_eq_true rfl) ?_
  refine kv_aload_n dd_Rul_init_4 rfl ?_
  refine kv_sipush (v := 256) dd_Rul_init_5 (by decide) ?_
  refine kv_newI 256 wa_int dd_Rul_init_8 (by decide) (by decide) hk1 hs1 ?_
  refine kv_putR fp_Rul_9 (fun _ => rfl) dd_Rul_init_10 hO2 rfl rfl ?_
  refine kv_aload_n dd_Rul_init_13 rfl ?_
  refine kv_iconst (v := 1) dd_Rul_init_14 (by decide) ?_
  exact kv_callV [.int 1] [] ls_Rul_15 hO3 hM dd_Rul_init_15 rfl hdp (Nat.le_of_ble_eq_true rfl) hkk hkl (fun v n' S' I' hv => kv_loc [0] rfl (K v n' S' I' hv))
theorem bl_Rul_init_18 {d : Nat} {B : kv_B} {Q : kv_Q} {kc ks n : Nat} {S : kv_SM} {I : kv_IM} {a0 : Nat} {dc kcc ksc : Nat} {Qy : kv_Q} {r1 : Nat → Option Nat} (hO1 : S a0 = kO 1 r1) (hM : kv_T y_Rul_take dc kcc ksc B [.ref a0, .int 0, .int 4, .int 64, .int 3, .int 0, .int 1] n S I Qy) (hdp : dc + 1 ≤ d) (hkk : kcc ≤ kc) (hkl : ksc ≤ ks) (K : ∀ v n' S' I', Qy v n' S' I' → kv_V y_Rul_init d B Q (kc - kcc) (ks - ksc) n' S' I' 29 [(0, .ref a0)] (v.toList ++ [])) : kv_V y_Rul_init d B Q kc ks n S I 18 [(0, .ref a0)] [] := by
  refine kv_aload_n dd_Rul_init_18 rfl ?_
  refine kv_iconst (v := 0) dd_Rul_init_19 (by decide) ?_
  refine kv_iconst (v := 4) dd_Rul_init_20 (by decide) ?_
  refine kv_bipush (v := 64) dd_Rul_init_21 (by decide) ?_
  refine kv_iconst (v := 3) dd_Rul_init_23 (by decide) ?_
  refine kv_iconst (v := 0) dd_Rul_init_24 (by decide) ?_
  refine kv_iconst (v := 1) dd_Rul_init_25 (by decide) ?_
  exact kv_callV [.int 0, .int 4, .int 64, .int 3, .int 0, .int 1] [] ls_Rul_19 hO1 hM dd_Rul_init_26 rfl hdp (Nat.le_of_ble_eq_true rfl) hkk hkl (fun v n' S' I' hv => kv_loc [0] rfl (K v n' S' I' hv))
theorem bl_Rul_init_29 {d : Nat} {B : kv_B} {Q : kv_Q} {kc ks n : Nat} {S : kv_SM} {I : kv_IM} {a0 : Nat} (hQ : Q (none) n S I) : kv_V y_Rul_init d B Q kc ks n S I 29 [(0, .ref a0)] [] := by
  exact kv_end (v := none) hQ ⟨dd_Rul_init_29, rfl⟩
theorem bl_Rul_sow_0 {d : Nat} {B : kv_B} {Q : kv_Q} {kc ks n : Nat} {S : kv_SM} {I : kv_IM} {a0 : Nat} {v1 : Int32} (K : kv_V y_Rul_sow d B Q kc ks n S I 4 [(0, .ref a0), (1, .int v1), (2, .int v1), (3, .int 0)] []) : kv_V y_Rul_sow d B Q kc ks n S I 0 [(0, .ref a0), (1, .int v1)] [] := by
  refine kv_iload_n dd_Rul_sow_0 rfl ?_
  refine kv_istore_n (L' := [(2, .int v1), (0, .ref a0), (1, .int v1)]) dd_Rul_sow_1 (by decide) rfl ?_
  refine kv_iconst (v := 0) dd_Rul_sow_2 (by decide) ?_
  refine kv_istore_n (L' := [(3, .int 0), (2, .int v1), (0, .ref a0), (1, .int v1)]) dd_Rul_sow_3 (by decide) rfl ?_
  exact kv_loc [2, 3, 1, 0] rfl K
theorem bl_Rul_sow_4 {d : Nat} {B : kv_B} {Q : kv_Q} {kc ks n : Nat} {S : kv_SM} {I : kv_IM} {a0 : Nat} {v1 : Int32} {v2 : Int32} {v3 : Int32} (Kt : 256 ≤ v3 → kv_V y_Rul_sow d B Q kc ks n S I 37 [(0, .ref a0), (1, .int v1), (2, .int v2), (3, .int v3)] []) (Kf : ¬ 256 ≤ v3 → kv_V y_Rul_sow d B Q kc ks n S I 11 [(0, .ref a0), (1, .int v1), (2, .int v2), (3, .int v3)] []) : kv_V y_Rul_sow d B Q kc ks n S I 4 [(0, .ref a0), (1, .int v1), (2, .int v2), (3, .int v3)] [] := by
  refine kv_iload_n dd_Rul_sow_4 rfl ?_
  refine kv_sipush (v := 256) dd_Rul_sow_5 (by decide) ?_
  exact kv_icmp_ge 37 dd_Rul_sow_8 (by decide) (fun h => kv_loc [0, 1, 2, 3] rfl (Kt h)) (fun h => kv_loc [0, 1, 2, 3] rfl (Kf h))
theorem bl_Rul_sow_11 {d : Nat} {B : kv_B} {Q : kv_Q} {kc ks n : Nat} {S : kv_SM} {I : kv_IM} {a0 : Nat} {v1 : Int32} {v2 : Int32} {v3 : Int32} {r1 : Nat → Option Nat} {q2 : Nat} {m3 : Nat} {j4 : Nat} (hO1 : S a0 = kO 1 r1) (hr2 : r1 0 = some q2) (hA3 : S q2 = kI m3) (hi4 : v3 = nI j4 ∧ j4 < m3 ∧ m3 < 2 ^ 31) (K : kv_V y_Rul_sow d B Q kc ks n S (kv_up I q2 j4 (((v2 * 1664525) + 1013904223) ^^^ ((Int32.toUInt32 ((v2 * 1664525) + 1013904223) >>> (Int32.toUInt32 16 &&& Int32.toUInt32 31)).toInt32))) 4 [(0, .ref a0), (1, .int v1), (2, .int ((v2 * 1664525) + 1013904223)), (3, .int (v3 + 1))] []) : kv_V y_Rul_sow d B Q kc ks n S I 11 [(0, .ref a0), (1, .int v1), (2, .int v2), (3, .int v3)] [] := by
  refine kv_iload_n dd_Rul_sow_11 rfl ?_
  refine kv_ldc wk_Rul_42 dd_Rul_sow_12 ?_
  refine kv_imul dd_Rul_sow_14 ?_
  refine kv_ldc wk_Rul_43 dd_Rul_sow_15 ?_
  refine kv_iadd dd_Rul_sow_17 ?_
  refine kv_istore_n (L' := [(2, .int ((v2 * 1664525) + 1013904223)), (0, .ref a0), (1, .int v1), (3, .int v3)]) dd_Rul_sow_18 (by decide) rfl ?_
  refine kv_aload_n dd_Rul_sow_19 rfl ?_
  refine kv_getR fl_Rul_9 dd_Rul_sow_20 hO1 hr2 ?_
  refine kv_iload_n dd_Rul_sow_23 rfl ?_
  refine kv_iload_n dd_Rul_sow_24 rfl ?_
  refine kv_iload_n dd_Rul_sow_25 rfl ?_
  refine kv_bipush (v := 16) dd_Rul_sow_26 (by decide) ?_
  refine kv_iushr dd_Rul_sow_28 ?_
  refine kv_ixor dd_Rul_sow_29 ?_
  refine kv_iast j4 dd_Rul_sow_30 hA3 hi4.1 hi4.2.1 hi4.2.2 ?_
  refine kv_iinc (v := v3 + 1) (L' := [(3, .int (v3 + 1)), (2, .int ((v2 * 1664525) + 1013904223)), (0, .ref a0), (1, .int v1)]) dd_Rul_sow_31 rfl rfl (by decide) rfl ?_
  refine kv_goto 4 dd_Rul_sow_34 (by decide) ?_
  exact kv_loc [2, 3, 1, 0] rfl K
theorem bl_Rul_sow_37 {d : Nat} {B : kv_B} {Q : kv_Q} {kc ks n : Nat} {S : kv_SM} {I : kv_IM} {a0 : Nat} {v1 : Int32} {v2 : Int32} {v3 : Int32} (hQ : Q (none) n S I) : kv_V y_Rul_sow d B Q kc ks n S I 37 [(0, .ref a0), (1, .int v1), (2, .int v2), (3, .int v3)] [] := by
  exact kv_end (v := none) hQ ⟨dd_Rul_sow_37, rfl⟩
theorem bl_Rul_take_0 {d : Nat} {B : kv_B} {Q : kv_Q} {kc ks n : Nat} {S : kv_SM} {I : kv_IM} {a0 : Nat} {v1 : Int32} {v2 : Int32} {v3 : Int32} {v4 : Int32} {v5 : Int32} {v6 : Int32} {r1 : Nat → Option Nat} (hO1 : S a0 = kO 1 r1) (hQ : Q (none) n S (kv_up (kv_up (kv_up (kv_up (kv_up (kv_up I a0 1 v1) a0 2 v2) a0 3 v3) a0 4 v4) a0 5 v5) a0 6 v6)) : kv_V y_Rul_take d B Q kc ks n S I 0 [(0, .ref a0), (1, .int v1), (2, .int v2), (3, .int v3), (4, .int v4), (5, .int v5), (6, .int v6)] [] := by
  refine kv_aload_n dd_Rul_take_0 rfl ?_
  refine kv_iload_n dd_Rul_take_1 rfl ?_
  refine kv_putI fp_Rul_23 (fun h => by cases h) dd_Rul_take_2 hO1 rfl rfl ?_
  refine kv_aload_n dd_Rul_take_5 rfl ?_
  refine kv_iload_n dd_Rul_take_6 rfl ?_
  refine kv_putI fp_Rul_27 (fun h => by cases h) dd_Rul_take_7 hO1 rfl rfl ?_
  refine kv_aload_n dd_Rul_take_10 rfl ?_
  refine kv_iload_n dd_Rul_take_11 rfl ?_
  refine kv_putI fp_Rul_30 (fun h => by cases h) dd_Rul_take_12 hO1 rfl rfl ?_
  refine kv_aload_n dd_Rul_take_15 rfl ?_
  refine kv_iload dd_Rul_take_16 rfl ?_
  refine kv_putI fp_Rul_33 (fun h => by cases h) dd_Rul_take_18 hO1 rfl rfl ?_
  refine kv_aload_n dd_Rul_take_21 rfl ?_
  refine kv_iload dd_Rul_take_22 rfl ?_
  refine kv_putI fp_Rul_36 (fun h => by cases h) dd_Rul_take_24 hO1 rfl rfl ?_
  refine kv_aload_n dd_Rul_take_27 rfl ?_
  refine kv_iload dd_Rul_take_28 rfl ?_
  refine kv_putI fp_Rul_39 (fun h => by cases h) dd_Rul_take_30 hO1 rfl rfl ?_
  exact kv_end (v := none) hQ ⟨dd_Rul_take_33, rfl⟩
theorem bl_Txt_init_0 {d : Nat} {B : kv_B} {Q : kv_Q} {kc ks n : Nat} {S : kv_SM} {I : kv_IM} {a0 : Nat} {dc kcc ksc : Nat} {Qy : kv_Q} (hd1 : 1 ≤ d) (hk1 : 1 ≤ kc) (hs1 : 6 ≤ ks) (hM : kv_T y_Row_init dc kcc ksc B [.ref (B.1 + n), .int 1500, .int 1500] (n + 1) (kv_su S (B.1 + n) (kO 0 (fun _ => none))) (kv_iu I (B.1 + n) (fun _ => 0)) Qy) (hdp : dc + 1 ≤ d) (hkk : kcc ≤ kc - 1) (hkl : ksc ≤ ks - 6) (K : ∀ v n' S' I', Qy v n' S' I' → kv_V y_Txt_init d B Q (kc - 1 - kcc) (ks - 6 - ksc) n' S' I' 18 [(0, .ref a0)] (v.toList ++ [.ref (B.1 + n), .ref a0])) : kv_V y_Txt_init d B Q kc ks n S I 0 [(0, .ref a0)] [] := by
  refine kv_aload_n dd_Txt_init_0 rfl ?_
  refine kv_objInit wm_Txt_3 wo_in wo_code dd_Txt_init_1 hd1 (Nat.le_of_ble_eq_true rfl) ?_
  refine kv_aload_n dd_Txt_init_4 rfl ?_
  refine kv_new nw_Txt_9 dd_Txt_init_5 hk1 hs1 ?_
  refine kv_dup dd_Txt_init_8 rfl ?_
  refine kv_sipush (v := 1500) dd_Txt_init_9 (by decide) ?_
  refine kv_sipush (v := 1500) dd_Txt_init_12 (by decide) ?_
  exact kv_callI [.int 1500, .int 1500] [.ref (B.1 + n), .ref a0] ls_Txt_11 hM dd_Txt_init_15 rfl hdp (Nat.le_of_ble_eq_true rfl) hkk hkl (fun v n' S' I' hv => kv_loc [0] rfl (K v n' S' I' hv))
theorem bl_Txt_init_18 {d : Nat} {B : kv_B} {Q : kv_Q} {kc ks n : Nat} {S : kv_SM} {I : kv_IM} {a0 : Nat} {t0 : Nat} {t1 : Nat} {r1 : Nat → Option Nat} (hO1 : S t1 = kO 4 r1) (hQ : Q (none) n (kv_su S t1 (kO 4 (kv_ru r1 0 (some t0)))) I) : kv_V y_Txt_init d B Q kc ks n S I 18 [(0, .ref a0)] [.ref t0, .ref t1] := by
  refine kv_putR fp_Txt_14 (fun _ => rfl) dd_Txt_init_18 hO1 rfl rfl ?_
  exact kv_end (v := none) hQ ⟨dd_Txt_init_21, rfl⟩
theorem bl_Row_init_0 {d : Nat} {B : kv_B} {Q : kv_Q} {kc ks n : Nat} {S : kv_SM} {I : kv_IM} {a0 : Nat} {v1 : Int32} {v2 : Int32} {N1 : Nat} {r2 : Nat → Option Nat} {N3 : Nat} {r4 : Nat → Option Nat} {N5 : Nat} {r6 : Nat → Option Nat} {N7 : Nat} {r8 : Nat → Option Nat} {r10 : Nat → Option Nat} {dc kcc ksc : Nat} {Qy : kv_Q} {r11 : Nat → Option Nat} (hd1 : 1 ≤ d) (hx1 : v1 = nI N1 ∧ N1 < 100000000) (hk1 : 1 ≤ kc) (hs1 : N1 ≤ ks) (hO2 : (kv_su S (B.1 + n) (kI N1)) a0 = kO 0 r2) (hx3 : v2 + 1 = nI N3 ∧ N3 < 100000000) (hk3 : 1 ≤ kc - 1) (hs3 : N3 ≤ ks - N1) (hO4 : (kv_su (kv_su (kv_su S (B.1 + n) (kI N1)) a0 (kO 0 (kv_ru r2 0 (some (B.1 + n))))) (B.1 + (n + 1)) (kI N3)) a0 = kO 0 r4) (hx5 : v2 = nI N5 ∧ N5 < 100000000) (hk5 : 1 ≤ (kc - 1) - 1) (hs5 : N5 ≤ (ks - N1) - N3) (hO6 : (kv_su (kv_su (kv_su (kv_su (kv_su S (B.1 + n) (kI N1)) a0 (kO 0 (kv_ru r2 0 (some (B.1 + n))))) (B.1 + (n + 1)) (kI N3)) a0 (kO 0 (kv_ru r4 1 (some (B.1 + (n + 1)))))) (B.1 + ((n + 1) + 1)) (kI N5)) a0 = kO 0 r6) (hx7 : v2 = nI N7 ∧ N7 < 100000000) (hk7 : 1 ≤ ((kc - 1) - 1) - 1) (hs7 : N7 ≤ ((ks - N1) - N3) - N5) (hO8 : (kv_su (kv_su (kv_su (kv_su (kv_su (kv_su (kv_su S (B.1 + n) (kI N1)) a0 (kO 0 (kv_ru r2 0 (some (B.1 + n))))) (B.1 + (n + 1)) (kI N3)) a0 (kO 0 (kv_ru r4 1 (some (B.1 + (n + 1)))))) (B.1 + ((n + 1) + 1)) (kI N5)) a0 (kO 0 (kv_ru r6 2 (some (B.1 + ((n + 1) + 1)))))) (B.1 + (((n + 1) + 1) + 1)) (kI N7)) a0 = kO 0 r8) (hk9 : 1 ≤ (((kc - 1) - 1) - 1) - 1) (hs9 : 256 ≤ (((ks - N1) - N3) - N5) - N7) (hO10 : (kv_su (kv_su (kv_su (kv_su (kv_su (kv_su (kv_su (kv_su (kv_su S (B.1 + n) (kI N1)) a0 (kO 0 (kv_ru r2 0 (some (B.1 + n))))) (B.1 + (n + 1)) (kI N3)) a0 (kO 0 (kv_ru r4 1 (some (B.1 + (n + 1)))))) (B.1 + ((n + 1) + 1)) (kI N5)) a0 (kO 0 (kv_ru r6 2 (some (B.1 + ((n + 1) + 1)))))) (B.1 + (((n + 1) + 1) + 1)) (kI N7)) a0 (kO 0 (kv_ru r8 4 (some (B.1 + (((n + 1) + 1) + 1)))))) (B.1 + ((((n + 1) + 1) + 1) + 1)) (kI 256)) a0 = kO 0 r10) (hO11 : (kv_su (kv_su (kv_su (kv_su (kv_su (kv_su (kv_su (kv_su (kv_su (kv_su S (B.1 + n) (kI N1)) a0 (kO 0 (kv_ru r2 0 (some (B.1 + n))))) (B.1 + (n + 1)) (kI N3)) a0 (kO 0 (kv_ru r4 1 (some (B.1 + (n + 1)))))) (B.1 + ((n + 1) + 1)) (kI N5)) a0 (kO 0 (kv_ru r6 2 (some (B.1 + ((n + 1) + 1)))))) (B.1 + (((n + 1) + 1) + 1)) (kI N7)) a0 (kO 0 (kv_ru r8 4 (some (B.1 + (((n + 1) + 1) + 1)))))) (B.1 + ((((n + 1) + 1) + 1) + 1)) (kI 256)) a0 (kO 0 (kv_ru r10 3 (some (B.1 + ((((n + 1) + 1) + 1) + 1)))))) a0 = kO 0 r11) (hM : kv_T y_Row_unchain dc kcc ksc B [.ref a0] (((((n + 1) + 1) + 1) + 1) + 1) (kv_su (kv_su (kv_su (kv_su (kv_su (kv_su (kv_su (kv_su (kv_su (kv_su S (B.1 + n) (kI N1)) a0 (kO 0 (kv_ru r2 0 (some (B.1 + n))))) (B.1 + (n + 1)) (kI N3)) a0 (kO 0 (kv_ru r4 1 (some (B.1 + (n + 1)))))) (B.1 + ((n + 1) + 1)) (kI N5)) a0 (kO 0 (kv_ru r6 2 (some (B.1 + ((n + 1) + 1)))))) (B.1 + (((n + 1) + 1) + 1)) (kI N7)) a0 (kO 0 (kv_ru r8 4 (some (B.1 + (((n + 1) + 1) + 1)))))) (B.1 + ((((n + 1) + 1) + 1) + 1)) (kI 256)) a0 (kO 0 (kv_ru r10 3 (some (B.1 + ((((n + 1) + 1) + 1) + 1)))))) (kv_iu (kv_iu (kv_iu (kv_iu (kv_iu I (B.1 + n) (fun _ => 0)) (B.1 + (n + 1)) (fun _ => 0)) (B.1 + ((n + 1) + 1)) (fun _ => 0)) (B.1 + (((n + 1) + 1) + 1)) (fun _ => 0)) (B.1 + ((((n + 1) + 1) + 1) + 1)) (fun _ => 0)) Qy) (hdp : dc + 1 ≤ d) (hkk : kcc ≤ ((((kc - 1) - 1) - 1) - 1) - 1) (hkl : ksc ≤ ((((ks - N1) - N3) - N5) - N7) - 256) (K : ∀ v n' S' I', Qy v n' S' I' → kv_V y_Row_init d B Q (((((kc - 1) - 1) - 1) - 1) - 1 - kcc) (((((ks - N1) - N3) - N5) - N7) - 256 - ksc) n' S' I' 47 [(0, .ref a0), (1, .int v1), (2, .int v2)] (v.toList ++ [])) : kv_V y_Row_init d B Q kc ks n S I 0 [(0, .ref a0), (1, .int v1), (2, .int v2)] [] := by
  refine kv_aload_n dd_Row_init_0 rfl ?_
  refine kv_objInit wm_Row_3 wo_in wo_code dd_Row_init_1 hd1 (Nat.le_of_ble_eq_true rfl) ?_
  refine kv_aload_n dd_Row_init_4 rfl ?_
  refine kv_iload_n dd_Row_init_5 rfl ?_
  refine kv_newI N1 wa_int dd_Row_init_6 hx1.1 hx1.2 hk1 hs1 ?_
  refine kv_putR fp_Row_9 (fun _ => rfl) dd_Row_init_8 hO2 rfl rfl ?_
  refine kv_aload_n dd_Row_init_11 rfl ?_
  refine kv_iload_n dd_Row_init_12 rfl ?_
  refine kv_iconst (v := 1) dd_Row_init_13 (by decide) ?_
  refine kv_iadd dd_Row_init_14 ?_
  refine kv_newI N3 wa_int dd_Row_init_15 hx3.1 hx3.2 hk3 hs3 ?_
  refine kv_putR fp_Row_15 (fun _ => rfl) dd_Row_init_17 hO4 rfl rfl ?_
  refine kv_aload_n dd_Row_init_20 rfl ?_
  refine kv_iload_n dd_Row_init_21 rfl ?_
  refine kv_newI N5 wa_int dd_Row_init_22 hx5.1 hx5.2 hk5 hs5 ?_
  refine kv_putR fp_Row_18 (fun _ => rfl) dd_Row_init_24 hO6 rfl rfl ?_
  refine kv_aload_n dd_Row_init_27 rfl ?_
  refine kv_iload_n dd_Row_init_28 rfl ?_
  refine kv_newI N7 wa_int dd_Row_init_29 hx7.1 hx7.2 hk7 hs7 ?_
  refine kv_putR fp_Row_21 (fun _ => rfl) dd_Row_init_31 hO8 rfl rfl ?_
  refine kv_aload_n dd_Row_init_34 rfl ?_
  refine kv_sipush (v := 256) dd_Row_init_35 (by decide) ?_
  refine kv_newI 256 wa_int dd_Row_init_38 (by decide) (by decide) hk9 hs9 ?_
  refine kv_putR fp_Row_24 (fun _ => rfl) dd_Row_init_40 hO10 rfl rfl ?_
  refine kv_aload_n dd_Row_init_43 rfl ?_
  exact kv_callV [] [] ls_Row_27 hO11 hM dd_Row_init_44 rfl hdp (Nat.le_of_ble_eq_true rfl) hkk hkl (fun v n' S' I' hv => kv_loc [0, 1, 2] rfl (K v n' S' I' hv))
theorem bl_Row_init_47 {d : Nat} {B : kv_B} {Q : kv_Q} {kc ks n : Nat} {S : kv_SM} {I : kv_IM} {a0 : Nat} {v1 : Int32} {v2 : Int32} (hQ : Q (none) n S I) : kv_V y_Row_init d B Q kc ks n S I 47 [(0, .ref a0), (1, .int v1), (2, .int v2)] [] := by
  exact kv_end (v := none) hQ ⟨dd_Row_init_47, rfl⟩
theorem bl_Row_unchain_0 {d : Nat} {B : kv_B} {Q : kv_Q} {kc ks n : Nat} {S : kv_SM} {I : kv_IM} {a0 : Nat} {r1 : Nat → Option Nat} {q2 : Nat} {dc kcc ksc : Nat} {Qy : kv_Q} (hO1 : S a0 = kO 0 r1) (hr2 : r1 3 = some q2) (hM : kv_T y_Arr_fill dc kcc ksc B [.ref q2, .int ((-1))] n S I Qy) (hdp : dc + 1 ≤ d) (hkk : kcc ≤ kc) (hkl : ksc ≤ ks) (K : ∀ v n' S' I', Qy v n' S' I' → kv_V y_Row_unchain d B Q (kc - kcc) (ks - ksc) n' S' I' 8 [(0, .ref a0)] (v.toList ++ [])) : kv_V y_Row_unchain d B Q kc ks n S I 0 [(0, .ref a0)] [] := by
  refine kv_aload_n dd_Row_unchain_0 rfl ?_
  refine kv_getR fl_Row_24 dd_Row_unchain_1 hO1 hr2 ?_
  refine kv_iconst (v := (-1)) dd_Row_unchain_4 (by decide) ?_
  exact kv_callS [.ref q2, .int ((-1))] [] ls_Row_39 hM dd_Row_unchain_5 rfl hdp (Nat.le_of_ble_eq_true rfl) hkk hkl (fun v n' S' I' hv => kv_loc [0] rfl (K v n' S' I' hv))
theorem bl_Row_unchain_8 {d : Nat} {B : kv_B} {Q : kv_Q} {kc ks n : Nat} {S : kv_SM} {I : kv_IM} {a0 : Nat} (hQ : Q (none) n S I) : kv_V y_Row_unchain d B Q kc ks n S I 8 [(0, .ref a0)] [] := by
  exact kv_end (v := none) hQ ⟨dd_Row_unchain_8, rfl⟩
theorem bl_Arr_fill_0 {d : Nat} {B : kv_B} {Q : kv_Q} {kc ks n : Nat} {S : kv_SM} {I : kv_IM} {a0 : Nat} {v1 : Int32} {m1 : Nat} (hA1 : S a0 = kI m1) (hl2 : 0 < m1) (K : kv_V y_Arr_fill d B Q kc ks n S I 5 [(0, .ref a0), (1, .int v1), (2, .int 0), (3, .int (nI m1))] []) : kv_V y_Arr_fill d B Q kc ks n S I 0 [(0, .ref a0), (1, .int v1)] [] := by
  refine kv_iconst (v := 0) dd_Arr_fill_0 (by decide) ?_
  refine kv_istore_n (L' := [(2, .int 0), (0, .ref a0), (1, .int v1)]) dd_Arr_fill_1 (by decide) rfl ?_
  refine kv_aload_n dd_Arr_fill_2 rfl ?_
  refine kv_alen dd_Arr_fill_3 hA1 hl2 ?_
  refine kv_istore_n (L' := [(3, .int (nI m1)), (2, .int 0), (0, .ref a0), (1, .int v1)]) dd_Arr_fill_4 (by decide) rfl ?_
  exact kv_loc [2, 3, 1, 0] rfl K
theorem bl_Arr_fill_5 {d : Nat} {B : kv_B} {Q : kv_Q} {kc ks n : Nat} {S : kv_SM} {I : kv_IM} {a0 : Nat} {v1 : Int32} {v2 : Int32} {v3 : Int32} (Kt : v3 ≤ v2 → kv_V y_Arr_fill d B Q kc ks n S I 20 [(0, .ref a0), (1, .int v1), (2, .int v2), (3, .int v3)] []) (Kf : ¬ v3 ≤ v2 → kv_V y_Arr_fill d B Q kc ks n S I 10 [(0, .ref a0), (1, .int v1), (2, .int v2), (3, .int v3)] []) : kv_V y_Arr_fill d B Q kc ks n S I 5 [(0, .ref a0), (1, .int v1), (2, .int v2), (3, .int v3)] [] := by
  refine kv_iload_n dd_Arr_fill_5 rfl ?_
  refine kv_iload_n dd_Arr_fill_6 rfl ?_
  exact kv_icmp_ge 20 dd_Arr_fill_7 (by decide) (fun h => kv_loc [0, 1, 2, 3] rfl (Kt h)) (fun h => kv_loc [0, 1, 2, 3] rfl (Kf h))
theorem bl_Arr_fill_10 {d : Nat} {B : kv_B} {Q : kv_Q} {kc ks n : Nat} {S : kv_SM} {I : kv_IM} {a0 : Nat} {v1 : Int32} {v2 : Int32} {v3 : Int32} {m1 : Nat} {j2 : Nat} (hA1 : S a0 = kI m1) (hi2 : v2 = nI j2 ∧ j2 < m1 ∧ m1 < 2 ^ 31) (K : kv_V y_Arr_fill d B Q kc ks n S (kv_up I a0 j2 v1) 5 [(0, .ref a0), (1, .int v1), (2, .int (v2 + 1)), (3, .int v3)] []) : kv_V y_Arr_fill d B Q kc ks n S I 10 [(0, .ref a0), (1, .int v1), (2, .int v2), (3, .int v3)] [] := by
  refine kv_aload_n dd_Arr_fill_10 rfl ?_
  refine kv_iload_n dd_Arr_fill_11 rfl ?_
  refine kv_iload_n dd_Arr_fill_12 rfl ?_
  refine kv_iast j2 dd_Arr_fill_13 hA1 hi2.1 hi2.2.1 hi2.2.2 ?_
  refine kv_iinc (v := v2 + 1) (L' := [(2, .int (v2 + 1)), (0, .ref a0), (1, .int v1), (3, .int v3)]) dd_Arr_fill_14 rfl rfl (by decide) rfl ?_
  refine kv_goto 5 dd_Arr_fill_17 (by decide) ?_
  exact kv_loc [1, 2, 0, 3] rfl K
theorem bl_Arr_fill_20 {d : Nat} {B : kv_B} {Q : kv_Q} {kc ks n : Nat} {S : kv_SM} {I : kv_IM} {a0 : Nat} {v1 : Int32} {v2 : Int32} {v3 : Int32} (hQ : Q (none) n S I) : kv_V y_Arr_fill d B Q kc ks n S I 20 [(0, .ref a0), (1, .int v1), (2, .int v2), (3, .int v3)] [] := by
  exact kv_end (v := none) hQ ⟨dd_Arr_fill_20, rfl⟩
theorem bl_Sto_init_0 {d : Nat} {B : kv_B} {Q : kv_Q} {kc ks n : Nat} {S : kv_SM} {I : kv_IM} {a0 : Nat} {dc kcc ksc : Nat} {Qy : kv_Q} (hd1 : 1 ≤ d) (hk1 : 1 ≤ kc) (hs1 : 6 ≤ ks) (hM : kv_T y_Row_init dc kcc ksc B [.ref (B.1 + n), .int 6000, .int 300] (n + 1) (kv_su S (B.1 + n) (kO 0 (fun _ => none))) (kv_iu I (B.1 + n) (fun _ => 0)) Qy) (hdp : dc + 1 ≤ d) (hkk : kcc ≤ kc - 1) (hkl : ksc ≤ ks - 6) (K : ∀ v n' S' I', Qy v n' S' I' → kv_V y_Sto_init d B Q (kc - 1 - kcc) (ks - 6 - ksc) n' S' I' 18 [(0, .ref a0)] (v.toList ++ [.ref (B.1 + n), .ref a0])) : kv_V y_Sto_init d B Q kc ks n S I 0 [(0, .ref a0)] [] := by
  refine kv_aload_n dd_Sto_init_0 rfl ?_
  refine kv_objInit wm_Sto_3 wo_in wo_code dd_Sto_init_1 hd1 (Nat.le_of_ble_eq_true rfl) ?_
  refine kv_aload_n dd_Sto_init_4 rfl ?_
  refine kv_new nw_Sto_9 dd_Sto_init_5 hk1 hs1 ?_
  refine kv_dup dd_Sto_init_8 rfl ?_
  refine kv_sipush (v := 6000) dd_Sto_init_9 (by decide) ?_
  refine kv_sipush (v := 300) dd_Sto_init_12 (by decide) ?_
  exact kv_callI [.int 6000, .int 300] [.ref (B.1 + n), .ref a0] ls_Sto_11 hM dd_Sto_init_15 rfl hdp (Nat.le_of_ble_eq_true rfl) hkk hkl (fun v n' S' I' hv => kv_loc [0] rfl (K v n' S' I' hv))
theorem bl_Sto_init_18 {d : Nat} {B : kv_B} {Q : kv_Q} {kc ks n : Nat} {S : kv_SM} {I : kv_IM} {a0 : Nat} {t0 : Nat} {t1 : Nat} {r1 : Nat → Option Nat} {r3 : Nat → Option Nat} {r5 : Nat → Option Nat} {r7 : Nat → Option Nat} (hO1 : S t1 = kO 3 r1) (hk2 : 1 ≤ kc) (hs2 : 300 ≤ ks) (hO3 : (kv_su (kv_su S t1 (kO 3 (kv_ru r1 0 (some t0)))) (B.1 + n) (kI 300)) a0 = kO 3 r3) (hk4 : 1 ≤ kc - 1) (hs4 : 300 ≤ ks - 300) (hO5 : (kv_su (kv_su (kv_su (kv_su S t1 (kO 3 (kv_ru r1 0 (some t0)))) (B.1 + n) (kI 300)) a0 (kO 3 (kv_ru r3 1 (some (B.1 + n))))) (B.1 + (n + 1)) (kI 300)) a0 = kO 3 r5) (hk6 : 1 ≤ (kc - 1) - 1) (hs6 : 10 ≤ (ks - 300) - 300) (hO7 : (kv_su (kv_su (kv_su (kv_su (kv_su (kv_su S t1 (kO 3 (kv_ru r1 0 (some t0)))) (B.1 + n) (kI 300)) a0 (kO 3 (kv_ru r3 1 (some (B.1 + n))))) (B.1 + (n + 1)) (kI 300)) a0 (kO 3 (kv_ru r5 2 (some (B.1 + (n + 1)))))) (B.1 + ((n + 1) + 1)) (kA 2 10 (fun _ => none))) a0 = kO 3 r7) (K : kv_V y_Sto_init d B Q (((kc - 1) - 1) - 1) (((ks - 300) - 300) - 10) (((n + 1) + 1) + 1) (kv_su (kv_su (kv_su (kv_su (kv_su (kv_su (kv_su S t1 (kO 3 (kv_ru r1 0 (some t0)))) (B.1 + n) (kI 300)) a0 (kO 3 (kv_ru r3 1 (some (B.1 + n))))) (B.1 + (n + 1)) (kI 300)) a0 (kO 3 (kv_ru r5 2 (some (B.1 + (n + 1)))))) (B.1 + ((n + 1) + 1)) (kA 2 10 (fun _ => none))) a0 (kO 3 (kv_ru r7 3 (some (B.1 + ((n + 1) + 1)))))) (kv_iu (kv_iu (kv_iu I (B.1 + n) (fun _ => 0)) (B.1 + (n + 1)) (fun _ => 0)) (B.1 + ((n + 1) + 1)) (fun _ => 0)) 50 [(0, .ref a0), (1, .int 0)] []) : kv_V y_Sto_init d B Q kc ks n S I 18 [(0, .ref a0)] [.ref t0, .ref t1] := by
  refine kv_putR fp_Sto_14 (fun _ => rfl) dd_Sto_init_18 hO1 rfl rfl ?_
  refine kv_aload_n dd_Sto_init_21 rfl ?_
  refine kv_sipush (v := 300) dd_Sto_init_22 (by decide) ?_
  refine kv_newI 300 wa_int dd_Sto_init_25 (by decide) (by decide) hk2 hs2 ?_
  refine kv_putR fp_Sto_20 (fun _ => rfl) dd_Sto_init_27 hO3 rfl rfl ?_
  refine kv_aload_n dd_Sto_init_30 rfl ?_
  refine kv_sipush (v := 300) dd_Sto_init_31 (by decide) ?_
  refine kv_newI 300 wa_int dd_Sto_init_34 (by decide) (by decide) hk4 hs4 ?_
  refine kv_putR fp_Sto_24 (fun _ => rfl) dd_Sto_init_36 hO5 rfl rfl ?_
  refine kv_aload_n dd_Sto_init_39 rfl ?_
  refine kv_bipush (v := 10) dd_Sto_init_40 (by decide) ?_
  refine kv_newA (ci := 2) (t0 := 3) 10 (fun _ => rfl) (by decide) wn_Sto_27 dd_Sto_init_42 (by decide) (by decide) hk6 hs6 ?_
  refine kv_putR fp_Sto_29 (fun _ => rfl) dd_Sto_init_45 hO7 rfl rfl ?_
  refine kv_iconst (v := 0) dd_Sto_init_48 (by decide) ?_
  refine kv_istore_n (L' := [(1, .int 0), (0, .ref a0)]) dd_Sto_init_49 (by decide) rfl ?_
  exact kv_loc [1, 0] rfl K
theorem bl_Sto_init_50 {d : Nat} {B : kv_B} {Q : kv_Q} {kc ks n : Nat} {S : kv_SM} {I : kv_IM} {a0 : Nat} {v1 : Int32} (Kt : 10 ≤ v1 → kv_V y_Sto_init d B Q kc ks n S I 75 [(0, .ref a0), (1, .int v1)] []) (Kf : ¬ 10 ≤ v1 → kv_V y_Sto_init d B Q kc ks n S I 56 [(0, .ref a0), (1, .int v1)] []) : kv_V y_Sto_init d B Q kc ks n S I 50 [(0, .ref a0), (1, .int v1)] [] := by
  refine kv_iload_n dd_Sto_init_50 rfl ?_
  refine kv_bipush (v := 10) dd_Sto_init_51 (by decide) ?_
  exact kv_icmp_ge 75 dd_Sto_init_53 (by decide) (fun h => kv_loc [0, 1] rfl (Kt h)) (fun h => kv_loc [0, 1] rfl (Kf h))
theorem bl_Sto_init_56 {d : Nat} {B : kv_B} {Q : kv_Q} {kc ks n : Nat} {S : kv_SM} {I : kv_IM} {a0 : Nat} {v1 : Int32} {r1 : Nat → Option Nat} {q2 : Nat} {dc kcc ksc : Nat} {Qy : kv_Q} (hO1 : S a0 = kO 3 r1) (hr2 : r1 3 = some q2) (hk3 : 1 ≤ kc) (hs3 : 4 ≤ ks) (hM : kv_T y_Snp_init dc kcc ksc B [.ref (B.1 + n)] (n + 1) (kv_su S (B.1 + n) (kO 2 (fun _ => none))) (kv_iu I (B.1 + n) (fun _ => 0)) Qy) (hdp : dc + 1 ≤ d) (hkk : kcc ≤ kc - 1) (hkl : ksc ≤ ks - 4) (K : ∀ v n' S' I', Qy v n' S' I' → kv_V y_Sto_init d B Q (kc - 1 - kcc) (ks - 4 - ksc) n' S' I' 68 [(0, .ref a0), (1, .int v1)] (v.toList ++ [.ref (B.1 + n), .int v1, .ref q2])) : kv_V y_Sto_init d B Q kc ks n S I 56 [(0, .ref a0), (1, .int v1)] [] := by
  refine kv_aload_n dd_Sto_init_56 rfl ?_
  refine kv_getR fl_Sto_29 dd_Sto_init_57 hO1 hr2 ?_
  refine kv_iload_n dd_Sto_init_60 rfl ?_
  refine kv_new nw_Sto_27 dd_Sto_init_61 hk3 hs3 ?_
  refine kv_dup dd_Sto_init_64 rfl ?_
  exact kv_callI [] [.ref (B.1 + n), .int v1, .ref q2] ls_Sto_33 hM dd_Sto_init_65 rfl hdp (Nat.le_of_ble_eq_true rfl) hkk hkl (fun v n' S' I' hv => kv_loc [0, 1] rfl (K v n' S' I' hv))
theorem bl_Sto_init_68 {d : Nat} {B : kv_B} {Q : kv_Q} {kc ks n : Nat} {S : kv_SM} {I : kv_IM} {a0 : Nat} {v1 : Int32} {t0 : Nat} {t1 : Int32} {t2 : Nat} {r1 : Nat → Option Nat} {m2 : Nat} {r2 : Nat → Option Nat} {j3 : Nat} (hO1 : S t0 = kO 2 r1) (hA2 : S t2 = kA 2 m2 r2) (hi3 : t1 = nI j3 ∧ j3 < m2 ∧ m2 < 2 ^ 31) (K : kv_V y_Sto_init d B Q kc ks n (kv_su S t2 (kA 2 m2 (kv_ru r2 j3 (some t0)))) I 50 [(0, .ref a0), (1, .int (v1 + 1))] []) : kv_V y_Sto_init d B Q kc ks n S I 68 [(0, .ref a0), (1, .int v1)] [.ref t0, .int t1, .ref t2] := by
  refine kv_aast j3 (q := (cR2, cT2, 4)) dd_Sto_init_68 hA2 hO1 rfl ⟨3, fun _ => rfl⟩ hi3.1 hi3.2.1 hi3.2.2 ?_
  refine kv_iinc (v := v1 + 1) (L' := [(1, .int (v1 + 1)), (0, .ref a0)]) dd_Sto_init_69 rfl rfl (by decide) rfl ?_
  refine kv_goto 50 dd_Sto_init_72 (by decide) ?_
  exact kv_loc [1, 0] rfl K
theorem bl_Sto_init_75 {d : Nat} {B : kv_B} {Q : kv_Q} {kc ks n : Nat} {S : kv_SM} {I : kv_IM} {a0 : Nat} {v1 : Int32} (hQ : Q (none) n S I) : kv_V y_Sto_init d B Q kc ks n S I 75 [(0, .ref a0), (1, .int v1)] [] := by
  exact kv_end (v := none) hQ ⟨dd_Sto_init_75, rfl⟩
theorem bl_Snp_init_0 {d : Nat} {B : kv_B} {Q : kv_Q} {kc ks n : Nat} {S : kv_SM} {I : kv_IM} {a0 : Nat} {r2 : Nat → Option Nat} (hd1 : 1 ≤ d) (hk1 : 1 ≤ kc) (hs1 : 1500 ≤ ks) (hO2 : (kv_su S (B.1 + n) (kI 1500)) a0 = kO 2 r2) (hQ : Q (none) (n + 1) (kv_su (kv_su S (B.1 + n) (kI 1500)) a0 (kO 2 (kv_ru r2 0 (some (B.1 + n))))) (kv_iu I (B.1 + n) (fun _ => 0))) : kv_V y_Snp_init d B Q kc ks n S I 0 [(0, .ref a0)] [] := by
  refine kv_aload_n dd_Snp_init_0 rfl ?_
  refine kv_objInit wm_Snp_3 wo_in wo_code dd_Snp_init_1 hd1 (Nat.le_of_ble_eq_true rfl) ?_
  refine kv_aload_n dd_Snp_init_4 rfl ?_
  refine kv_sipush (v := 1500) dd_Snp_init_5 (by decide) ?_
  refine kv_newI 1500 wa_int dd_Snp_init_8 (by decide) (by decide) hk1 hs1 ?_
  refine kv_putR fp_Snp_9 (fun _ => rfl) dd_Snp_init_10 hO2 rfl rfl ?_
  exact kv_end (v := none) hQ ⟨dd_Snp_init_13, rfl⟩
theorem bl_Txt_forgetCuts_0 {d : Nat} {B : kv_B} {Q : kv_Q} {kc ks n : Nat} {S : kv_SM} {I : kv_IM} {a0 : Nat} {r1 : Nat → Option Nat} (hO1 : S a0 = kO 4 r1) (hQ : Q (none) n S (kv_up (kv_up I a0 2 0) a0 3 0)) : kv_V y_Txt_forgetCuts d B Q kc ks n S I 0 [(0, .ref a0)] [] := by
  refine kv_aload_n dd_Txt_forgetCuts_0 rfl ?_
  refine kv_iconst (v := 0) dd_Txt_forgetCuts_1 (by decide) ?_
  refine kv_putI fp_Txt_20 (fun h => by cases h) dd_Txt_forgetCuts_2 hO1 rfl rfl ?_
  refine kv_aload_n dd_Txt_forgetCuts_5 rfl ?_
  refine kv_iconst (v := 0) dd_Txt_forgetCuts_6 (by decide) ?_
  refine kv_putI fp_Txt_24 (fun h => by cases h) dd_Txt_forgetCuts_7 hO1 rfl rfl ?_
  exact kv_end (v := none) hQ ⟨dd_Txt_forgetCuts_10, rfl⟩
theorem bl_Rul_fit_0 {d : Nat} {B : kv_B} {Q : kv_Q} {kc ks n : Nat} {S : kv_SM} {I : kv_IM} {v0 : Int32} {v1 : Int32} {v2 : Int32} {v3 : Int32} {v4 : Int32} {v5 : Int32} (Kt : v0 < 0 → kv_V y_Rul_fit d B Q kc ks n S I 21 [(0, .int v0), (1, .int v1), (2, .int v2), (3, .int v3), (4, .int v4), (5, .int v5)] []) (Kf : ¬ v0 < 0 → kv_V y_Rul_fit d B Q kc ks n S I 4 [(0, .int v0), (1, .int v1), (2, .int v2), (3, .int v3), (4, .int v4), (5, .int v5)] []) : kv_V y_Rul_fit d B Q kc ks n S I 0 [(0, .int v0), (1, .int v1), (2, .int v2), (3, .int v3), (4, .int v4), (5, .int v5)] [] := by
  refine kv_iload_n dd_Rul_fit_0 rfl ?_
  exact kv_if_lt 21 dd_Rul_fit_1 (by decide) (fun h => kv_loc [0, 1, 2, 3, 4, 5] rfl (Kt h)) (fun h => kv_loc [0, 1, 2, 3, 4, 5] rfl (Kf h))
theorem bl_Rul_fit_4 {d : Nat} {B : kv_B} {Q : kv_Q} {kc ks n : Nat} {S : kv_SM} {I : kv_IM} {v0 : Int32} {v1 : Int32} {v2 : Int32} {v3 : Int32} {v4 : Int32} {v5 : Int32} (Kt : 3 < v0 → kv_V y_Rul_fit d B Q kc ks n S I 21 [(0, .int v0), (1, .int v1), (2, .int v2), (3, .int v3), (4, .int v4), (5, .int v5)] []) (Kf : ¬ 3 < v0 → kv_V y_Rul_fit d B Q kc ks n S I 9 [(0, .int v0), (1, .int v1), (2, .int v2), (3, .int v3), (4, .int v4), (5, .int v5)] []) : kv_V y_Rul_fit d B Q kc ks n S I 4 [(0, .int v0), (1, .int v1), (2, .int v2), (3, .int v3), (4, .int v4), (5, .int v5)] [] := by
  refine kv_iload_n dd_Rul_fit_4 rfl ?_
  refine kv_iconst (v := 3) dd_Rul_fit_5 (by decide) ?_
  exact kv_icmp_gt 21 dd_Rul_fit_6 (by decide) (fun h => kv_loc [0, 1, 2, 3, 4, 5] rfl (Kt h)) (fun h => kv_loc [0, 1, 2, 3, 4, 5] rfl (Kf h))
theorem bl_Rul_fit_9 {d : Nat} {B : kv_B} {Q : kv_Q} {kc ks n : Nat} {S : kv_SM} {I : kv_IM} {v0 : Int32} {v1 : Int32} {v2 : Int32} {v3 : Int32} {v4 : Int32} {v5 : Int32} (Kt : v1 < 1 → kv_V y_Rul_fit d B Q kc ks n S I 21 [(0, .int v0), (1, .int v1), (2, .int v2), (3, .int v3), (4, .int v4), (5, .int v5)] []) (Kf : ¬ v1 < 1 → kv_V y_Rul_fit d B Q kc ks n S I 14 [(0, .int v0), (1, .int v1), (2, .int v2), (3, .int v3), (4, .int v4), (5, .int v5)] []) : kv_V y_Rul_fit d B Q kc ks n S I 9 [(0, .int v0), (1, .int v1), (2, .int v2), (3, .int v3), (4, .int v4), (5, .int v5)] [] := by
  refine kv_iload_n dd_Rul_fit_9 rfl ?_
  refine kv_iconst (v := 1) dd_Rul_fit_10 (by decide) ?_
  exact kv_icmp_lt 21 dd_Rul_fit_11 (by decide) (fun h => kv_loc [0, 1, 2, 3, 4, 5] rfl (Kt h)) (fun h => kv_loc [0, 1, 2, 3, 4, 5] rfl (Kf h))
theorem bl_Rul_fit_14 {d : Nat} {B : kv_B} {Q : kv_Q} {kc ks n : Nat} {S : kv_SM} {I : kv_IM} {v0 : Int32} {v1 : Int32} {v2 : Int32} {v3 : Int32} {v4 : Int32} {v5 : Int32} (Kt : v1 ≤ 200 → kv_V y_Rul_fit d B Q kc ks n S I 23 [(0, .int v0), (1, .int v1), (2, .int v2), (3, .int v3), (4, .int v4), (5, .int v5)] []) (Kf : ¬ v1 ≤ 200 → kv_V y_Rul_fit d B Q kc ks n S I 21 [(0, .int v0), (1, .int v1), (2, .int v2), (3, .int v3), (4, .int v4), (5, .int v5)] []) : kv_V y_Rul_fit d B Q kc ks n S I 14 [(0, .int v0), (1, .int v1), (2, .int v2), (3, .int v3), (4, .int v4), (5, .int v5)] [] := by
  refine kv_iload_n dd_Rul_fit_14 rfl ?_
  refine kv_sipush (v := 200) dd_Rul_fit_15 (by decide) ?_
  exact kv_icmp_le 23 dd_Rul_fit_18 (by decide) (fun h => kv_loc [0, 1, 2, 3, 4, 5] rfl (Kt h)) (fun h => kv_loc [0, 1, 2, 3, 4, 5] rfl (Kf h))
theorem bl_Rul_fit_21 {d : Nat} {B : kv_B} {Q : kv_Q} {kc ks n : Nat} {S : kv_SM} {I : kv_IM} {v0 : Int32} {v1 : Int32} {v2 : Int32} {v3 : Int32} {v4 : Int32} {v5 : Int32} (hQ : Q (some (.int 0)) n S I) : kv_V y_Rul_fit d B Q kc ks n S I 21 [(0, .int v0), (1, .int v1), (2, .int v2), (3, .int v3), (4, .int v4), (5, .int v5)] [] := by
  refine kv_iconst (v := 0) dd_Rul_fit_21 (by decide) ?_
  exact kv_end (v := some (.int 0)) hQ ⟨dd_Rul_fit_22, .boolean, rfl, rfl⟩
theorem bl_Rul_fit_23 {d : Nat} {B : kv_B} {Q : kv_Q} {kc ks n : Nat} {S : kv_SM} {I : kv_IM} {v0 : Int32} {v1 : Int32} {v2 : Int32} {v3 : Int32} {v4 : Int32} {v5 : Int32} (Kt : v2 < v1 → kv_V y_Rul_fit d B Q kc ks n S I 46 [(0, .int v0), (1, .int v1), (2, .int v2), (3, .int v3), (4, .int v4), (5, .int v5)] []) (Kf : ¬ v2 < v1 → kv_V y_Rul_fit d B Q kc ks n S I 28 [(0, .int v0), (1, .int v1), (2, .int v2), (3, .int v3), (4, .int v4), (5, .int v5)] []) : kv_V y_Rul_fit d B Q kc ks n S I 23 [(0, .int v0), (1, .int v1), (2, .int v2), (3, .int v3), (4, .int v4), (5, .int v5)] [] := by
  refine kv_iload_n dd_Rul_fit_23 rfl ?_
  refine kv_iload_n dd_Rul_fit_24 rfl ?_
  exact kv_icmp_lt 46 dd_Rul_fit_25 (by decide) (fun h => kv_loc [0, 1, 2, 3, 4, 5] rfl (Kt h)) (fun h => kv_loc [0, 1, 2, 3, 4, 5] rfl (Kf h))
theorem bl_Rul_fit_28 {d : Nat} {B : kv_B} {Q : kv_Q} {kc ks n : Nat} {S : kv_SM} {I : kv_IM} {v0 : Int32} {v1 : Int32} {v2 : Int32} {v3 : Int32} {v4 : Int32} {v5 : Int32} (Kt : 600 < v2 → kv_V y_Rul_fit d B Q kc ks n S I 46 [(0, .int v0), (1, .int v1), (2, .int v2), (3, .int v3), (4, .int v4), (5, .int v5)] []) (Kf : ¬ 600 < v2 → kv_V y_Rul_fit d B Q kc ks n S I 35 [(0, .int v0), (1, .int v1), (2, .int v2), (3, .int v3), (4, .int v4), (5, .int v5)] []) : kv_V y_Rul_fit d B Q kc ks n S I 28 [(0, .int v0), (1, .int v1), (2, .int v2), (3, .int v3), (4, .int v4), (5, .int v5)] [] := by
  refine kv_iload_n dd_Rul_fit_28 rfl ?_
  refine kv_sipush (v := 600) dd_Rul_fit_29 (by decide) ?_
  exact kv_icmp_gt 46 dd_Rul_fit_32 (by decide) (fun h => kv_loc [0, 1, 2, 3, 4, 5] rfl (Kt h)) (fun h => kv_loc [0, 1, 2, 3, 4, 5] rfl (Kf h))
theorem bl_Rul_fit_35 {d : Nat} {B : kv_B} {Q : kv_Q} {kc ks n : Nat} {S : kv_SM} {I : kv_IM} {v0 : Int32} {v1 : Int32} {v2 : Int32} {v3 : Int32} {v4 : Int32} {v5 : Int32} (Kt : v3 < 1 → kv_V y_Rul_fit d B Q kc ks n S I 46 [(0, .int v0), (1, .int v1), (2, .int v2), (3, .int v3), (4, .int v4), (5, .int v5)] []) (Kf : ¬ v3 < 1 → kv_V y_Rul_fit d B Q kc ks n S I 40 [(0, .int v0), (1, .int v1), (2, .int v2), (3, .int v3), (4, .int v4), (5, .int v5)] []) : kv_V y_Rul_fit d B Q kc ks n S I 35 [(0, .int v0), (1, .int v1), (2, .int v2), (3, .int v3), (4, .int v4), (5, .int v5)] [] := by
  refine kv_iload_n dd_Rul_fit_35 rfl ?_
  refine kv_iconst (v := 1) dd_Rul_fit_36 (by decide) ?_
  exact kv_icmp_lt 46 dd_Rul_fit_37 (by decide) (fun h => kv_loc [0, 1, 2, 3, 4, 5] rfl (Kt h)) (fun h => kv_loc [0, 1, 2, 3, 4, 5] rfl (Kf h))
theorem bl_Rul_fit_40 {d : Nat} {B : kv_B} {Q : kv_Q} {kc ks n : Nat} {S : kv_SM} {I : kv_IM} {v0 : Int32} {v1 : Int32} {v2 : Int32} {v3 : Int32} {v4 : Int32} {v5 : Int32} (Kt : v3 ≤ 9 → kv_V y_Rul_fit d B Q kc ks n S I 48 [(0, .int v0), (1, .int v1), (2, .int v2), (3, .int v3), (4, .int v4), (5, .int v5)] []) (Kf : ¬ v3 ≤ 9 → kv_V y_Rul_fit d B Q kc ks n S I 46 [(0, .int v0), (1, .int v1), (2, .int v2), (3, .int v3), (4, .int v4), (5, .int v5)] []) : kv_V y_Rul_fit d B Q kc ks n S I 40 [(0, .int v0), (1, .int v1), (2, .int v2), (3, .int v3), (4, .int v4), (5, .int v5)] [] := by
  refine kv_iload_n dd_Rul_fit_40 rfl ?_
  refine kv_bipush (v := 9) dd_Rul_fit_41 (by decide) ?_
  exact kv_icmp_le 48 dd_Rul_fit_43 (by decide) (fun h => kv_loc [0, 1, 2, 3, 4, 5] rfl (Kt h)) (fun h => kv_loc [0, 1, 2, 3, 4, 5] rfl (Kf h))
theorem bl_Rul_fit_46 {d : Nat} {B : kv_B} {Q : kv_Q} {kc ks n : Nat} {S : kv_SM} {I : kv_IM} {v0 : Int32} {v1 : Int32} {v2 : Int32} {v3 : Int32} {v4 : Int32} {v5 : Int32} (hQ : Q (some (.int 0)) n S I) : kv_V y_Rul_fit d B Q kc ks n S I 46 [(0, .int v0), (1, .int v1), (2, .int v2), (3, .int v3), (4, .int v4), (5, .int v5)] [] := by
  refine kv_iconst (v := 0) dd_Rul_fit_46 (by decide) ?_
  exact kv_end (v := some (.int 0)) hQ ⟨dd_Rul_fit_47, .boolean, rfl, rfl⟩
theorem bl_Rul_fit_48 {d : Nat} {B : kv_B} {Q : kv_Q} {kc ks n : Nat} {S : kv_SM} {I : kv_IM} {v0 : Int32} {v1 : Int32} {v2 : Int32} {v3 : Int32} {v4 : Int32} {v5 : Int32} (Kt : v4 < 0 → kv_V y_Rul_fit d B Q kc ks n S I 72 [(0, .int v0), (1, .int v1), (2, .int v2), (3, .int v3), (4, .int v4), (5, .int v5)] []) (Kf : ¬ v4 < 0 → kv_V y_Rul_fit d B Q kc ks n S I 53 [(0, .int v0), (1, .int v1), (2, .int v2), (3, .int v3), (4, .int v4), (5, .int v5)] []) : kv_V y_Rul_fit d B Q kc ks n S I 48 [(0, .int v0), (1, .int v1), (2, .int v2), (3, .int v3), (4, .int v4), (5, .int v5)] [] := by
  refine kv_iload dd_Rul_fit_48 rfl ?_
  exact kv_if_lt 72 dd_Rul_fit_50 (by decide) (fun h => kv_loc [0, 1, 2, 3, 4, 5] rfl (Kt h)) (fun h => kv_loc [0, 1, 2, 3, 4, 5] rfl (Kf h))
theorem bl_Rul_fit_53 {d : Nat} {B : kv_B} {Q : kv_Q} {kc ks n : Nat} {S : kv_SM} {I : kv_IM} {v0 : Int32} {v1 : Int32} {v2 : Int32} {v3 : Int32} {v4 : Int32} {v5 : Int32} (Kt : v3 < v4 → kv_V y_Rul_fit d B Q kc ks n S I 72 [(0, .int v0), (1, .int v1), (2, .int v2), (3, .int v3), (4, .int v4), (5, .int v5)] []) (Kf : ¬ v3 < v4 → kv_V y_Rul_fit d B Q kc ks n S I 59 [(0, .int v0), (1, .int v1), (2, .int v2), (3, .int v3), (4, .int v4), (5, .int v5)] []) : kv_V y_Rul_fit d B Q kc ks n S I 53 [(0, .int v0), (1, .int v1), (2, .int v2), (3, .int v3), (4, .int v4), (5, .int v5)] [] := by
  refine kv_iload dd_Rul_fit_53 rfl ?_
  refine kv_iload_n dd_Rul_fit_55 rfl ?_
  exact kv_icmp_gt 72 dd_Rul_fit_56 (by decide) (fun h => kv_loc [0, 1, 2, 3, 4, 5] rfl (Kt h)) (fun h => kv_loc [0, 1, 2, 3, 4, 5] rfl (Kf h))
theorem bl_Rul_fit_59 {d : Nat} {B : kv_B} {Q : kv_Q} {kc ks n : Nat} {S : kv_SM} {I : kv_IM} {v0 : Int32} {v1 : Int32} {v2 : Int32} {v3 : Int32} {v4 : Int32} {v5 : Int32} (Kt : v5 < 1 → kv_V y_Rul_fit d B Q kc ks n S I 72 [(0, .int v0), (1, .int v1), (2, .int v2), (3, .int v3), (4, .int v4), (5, .int v5)] []) (Kf : ¬ v5 < 1 → kv_V y_Rul_fit d B Q kc ks n S I 65 [(0, .int v0), (1, .int v1), (2, .int v2), (3, .int v3), (4, .int v4), (5, .int v5)] []) : kv_V y_Rul_fit d B Q kc ks n S I 59 [(0, .int v0), (1, .int v1), (2, .int v2), (3, .int v3), (4, .int v4), (5, .int v5)] [] := by
  refine kv_iload dd_Rul_fit_59 rfl ?_
  refine kv_iconst (v := 1) dd_Rul_fit_61 (by decide) ?_
  exact kv_icmp_lt 72 dd_Rul_fit_62 (by decide) (fun h => kv_loc [0, 1, 2, 3, 4, 5] rfl (Kt h)) (fun h => kv_loc [0, 1, 2, 3, 4, 5] rfl (Kf h))
theorem bl_Rul_fit_65 {d : Nat} {B : kv_B} {Q : kv_Q} {kc ks n : Nat} {S : kv_SM} {I : kv_IM} {v0 : Int32} {v1 : Int32} {v2 : Int32} {v3 : Int32} {v4 : Int32} {v5 : Int32} (Kt : v5 ≤ 16 → kv_V y_Rul_fit d B Q kc ks n S I 74 [(0, .int v0), (1, .int v1), (2, .int v2), (3, .int v3), (4, .int v4), (5, .int v5)] []) (Kf : ¬ v5 ≤ 16 → kv_V y_Rul_fit d B Q kc ks n S I 72 [(0, .int v0), (1, .int v1), (2, .int v2), (3, .int v3), (4, .int v4), (5, .int v5)] []) : kv_V y_Rul_fit d B Q kc ks n S I 65 [(0, .int v0), (1, .int v1), (2, .int v2), (3, .int v3), (4, .int v4), (5, .int v5)] [] := by
  refine kv_iload dd_Rul_fit_65 rfl ?_
  refine kv_bipush (v := 16) dd_Rul_fit_67 (by decide) ?_
  exact kv_icmp_le 74 dd_Rul_fit_69 (by decide) (fun h => kv_loc [0, 1, 2, 3, 4, 5] rfl (Kt h)) (fun h => kv_loc [0, 1, 2, 3, 4, 5] rfl (Kf h))
theorem bl_Rul_fit_72 {d : Nat} {B : kv_B} {Q : kv_Q} {kc ks n : Nat} {S : kv_SM} {I : kv_IM} {v0 : Int32} {v1 : Int32} {v2 : Int32} {v3 : Int32} {v4 : Int32} {v5 : Int32} (hQ : Q (some (.int 0)) n S I) : kv_V y_Rul_fit d B Q kc ks n S I 72 [(0, .int v0), (1, .int v1), (2, .int v2), (3, .int v3), (4, .int v4), (5, .int v5)] [] := by
  refine kv_iconst (v := 0) dd_Rul_fit_72 (by decide) ?_
  exact kv_end (v := some (.int 0)) hQ ⟨dd_Rul_fit_73, .boolean, rfl, rfl⟩
theorem bl_Rul_fit_74 {d : Nat} {B : kv_B} {Q : kv_Q} {kc ks n : Nat} {S : kv_SM} {I : kv_IM} {v0 : Int32} {v1 : Int32} {v2 : Int32} {v3 : Int32} {v4 : Int32} {v5 : Int32} (hz1 : ¬ v5 = 0) (Kt : (v2 - (v2 - v2 / v5 * v5)) < v1 → kv_V y_Rul_fit d B Q kc ks n S I 88 [(0, .int v0), (1, .int v1), (2, .int v2), (3, .int v3), (4, .int v4), (5, .int v5)] []) (Kf : ¬ (v2 - (v2 - v2 / v5 * v5)) < v1 → kv_V y_Rul_fit d B Q kc ks n S I 84 [(0, .int v0), (1, .int v1), (2, .int v2), (3, .int v3), (4, .int v4), (5, .int v5)] []) : kv_V y_Rul_fit d B Q kc ks n S I 74 [(0, .int v0), (1, .int v1), (2, .int v2), (3, .int v3), (4, .int v4), (5, .int v5)] [] := by
  refine kv_iload_n dd_Rul_fit_74 rfl ?_
  refine kv_iload_n dd_Rul_fit_75 rfl ?_
  refine kv_iload dd_Rul_fit_76 rfl ?_
  refine kv_irem dd_Rul_fit_78 hz1 ?_
  refine kv_isub dd_Rul_fit_79 ?_
  refine kv_iload_n dd_Rul_fit_80 rfl ?_
  exact kv_icmp_lt 88 dd_Rul_fit_81 (by decide) (fun h => kv_loc [0, 1, 2, 3, 4, 5] rfl (Kt h)) (fun h => kv_loc [0, 1, 2, 3, 4, 5] rfl (Kf h))
theorem bl_Rul_fit_84 {d : Nat} {B : kv_B} {Q : kv_Q} {kc ks n : Nat} {S : kv_SM} {I : kv_IM} {v0 : Int32} {v1 : Int32} {v2 : Int32} {v3 : Int32} {v4 : Int32} {v5 : Int32} (K : kv_V y_Rul_fit d B Q kc ks n S I 89 [(0, .int v0), (1, .int v1), (2, .int v2), (3, .int v3), (4, .int v4), (5, .int v5)] [.int 1]) : kv_V y_Rul_fit d B Q kc ks n S I 84 [(0, .int v0), (1, .int v1), (2, .int v2), (3, .int v3), (4, .int v4), (5, .int v5)] [] := by
  refine kv_iconst (v := 1) dd_Rul_fit_84 (by decide) ?_
  refine kv_goto 89 dd_Rul_fit_85 (by decide) ?_
  exact kv_loc [0, 1, 2, 3, 4, 5] rfl K
theorem bl_Rul_fit_88 {d : Nat} {B : kv_B} {Q : kv_Q} {kc ks n : Nat} {S : kv_SM} {I : kv_IM} {v0 : Int32} {v1 : Int32} {v2 : Int32} {v3 : Int32} {v4 : Int32} {v5 : Int32} (K : kv_V y_Rul_fit d B Q kc ks n S I 89 [(0, .int v0), (1, .int v1), (2, .int v2), (3, .int v3), (4, .int v4), (5, .int v5)] [.int 0]) : kv_V y_Rul_fit d B Q kc ks n S I 88 [(0, .int v0), (1, .int v1), (2, .int v2), (3, .int v3), (4, .int v4), (5, .int v5)] [] := by
  refine kv_iconst (v := 0) dd_Rul_fit_88 (by decide) ?_
  exact kv_loc [0, 1, 2, 3, 4, 5] rfl K
theorem bl_Rul_fit_89 {d : Nat} {B : kv_B} {Q : kv_Q} {kc ks n : Nat} {S : kv_SM} {I : kv_IM} {v0 : Int32} {v1 : Int32} {v2 : Int32} {v3 : Int32} {v4 : Int32} {v5 : Int32} {t0 : Int32} (hb : narrow .boolean (.int t0) = .int t0) (hQ : Q (some (.int t0)) n S I) : kv_V y_Rul_fit d B Q kc ks n S I 89 [(0, .int v0), (1, .int v1), (2, .int v2), (3, .int v3), (4, .int v4), (5, .int v5)] [.int t0] := by
  exact kv_end (v := some (.int t0)) hQ ⟨dd_Rul_fit_89, .boolean, rfl, hb⟩
theorem bl_Txt_put_0 {d : Nat} {B : kv_B} {Q : kv_Q} {kc ks n : Nat} {S : kv_SM} {I : kv_IM} {a0 : Nat} {v1 : Int32} {v2 : Int32} {r1 : Nat → Option Nat} (hO1 : S a0 = kO 4 r1) (Kt : (I a0 1) < 1500 → kv_V y_Txt_put d B Q kc ks n S I 13 [(0, .ref a0), (1, .int v1), (2, .int v2)] []) (Kf : ¬ (I a0 1) < 1500 → kv_V y_Txt_put d B Q kc ks n S I 10 [(0, .ref a0), (1, .int v1), (2, .int v2)] []) : kv_V y_Txt_put d B Q kc ks n S I 0 [(0, .ref a0), (1, .int v1), (2, .int v2)] [] := by
  refine kv_aload_n dd_Txt_put_0 rfl ?_
  refine kv_getI fl_Txt_35 dd_Txt_put_1 hO1 ?_
  refine kv_sipush (v := 1500) dd_Txt_put_4 (by decide) ?_
  exact kv_icmp_lt 13 dd_Txt_put_7 (by decide) (fun h => kv_loc [0, 1, 2] rfl (Kt h)) (fun h => kv_loc [0, 1, 2] rfl (Kf h))
theorem bl_Txt_put_10 {d : Nat} {B : kv_B} {Q : kv_Q} {kc ks n : Nat} {S : kv_SM} {I : kv_IM} {a0 : Nat} {v1 : Int32} {v2 : Int32} (hQ : Q (some (.int ((-2)))) n S I) : kv_V y_Txt_put d B Q kc ks n S I 10 [(0, .ref a0), (1, .int v1), (2, .int v2)] [] := by
  refine kv_bipush (v := (-2)) dd_Txt_put_10 (by decide) ?_
  exact kv_end (v := some (.int ((-2)))) hQ ⟨dd_Txt_put_12, .int, rfl, rfl⟩
theorem bl_Txt_put_13 {d : Nat} {B : kv_B} {Q : kv_Q} {kc ks n : Nat} {S : kv_SM} {I : kv_IM} {a0 : Nat} {v1 : Int32} {v2 : Int32} {r1 : Nat → Option Nat} {q2 : Nat} {r3 : Nat → Option Nat} {q4 : Nat} {m5 : Nat} {sp6 dp6 N6 : Nat} {j7 : Nat} {dc kcc ksc : Nat} {Qy : kv_Q} (hd1 : 1 ≤ d) (hO1 : S a0 = kO 4 r1) (hr2 : r1 0 = some q2) (hO3 : S q2 = kO 0 r3) (hr4 : r3 0 = some q4) (hA5 : S q4 = kI m5) (hc6 : (0 < m5 ∧ 0 < m5 ∧ m5 < 2 ^ 30 ∧ m5 < 2 ^ 30) ∧ (v1 = nI sp6 ∧ v1 + 1 = nI dp6 ∧ (I a0 1) - v1 = nI N6) ∧ sp6 + N6 ≤ m5 ∧ dp6 + N6 ≤ m5) (hi7 : v1 = nI j7 ∧ j7 < m5 ∧ m5 < 2 ^ 31) (hM : kv_T y_Txt_changedTo dc kcc ksc B [.ref a0, .int (((kv_up (kv_cp I q4 q4 sp6 dp6 N6) q4 j7 v2) a0 1) + 1)] n S (kv_up (kv_cp I q4 q4 sp6 dp6 N6) q4 j7 v2) Qy) (hdp : dc + 1 ≤ d) (hkk : kcc ≤ kc) (hkl : ksc ≤ ks) (K : ∀ v n' S' I', Qy v n' S' I' → kv_V y_Txt_put d B Q (kc - kcc) (ks - ksc) n' S' I' 60 [(0, .ref a0), (1, .int v1), (2, .int v2)] (v.toList ++ [])) : kv_V y_Txt_put d B Q kc ks n S I 13 [(0, .ref a0), (1, .int v1), (2, .int v2)] [] := by
  refine kv_aload_n dd_Txt_put_13 rfl ?_
  refine kv_getR fl_Txt_14 dd_Txt_put_14 hO1 hr2 ?_
  refine kv_getR fl_Txt_38 dd_Txt_put_17 hO3 hr4 ?_
  refine kv_iload_n dd_Txt_put_20 rfl ?_
  refine kv_aload_n dd_Txt_put_21 rfl ?_
  refine kv_getR fl_Txt_14 dd_Txt_put_22 hO1 hr2 ?_
  refine kv_getR fl_Txt_38 dd_Txt_put_25 hO3 hr4 ?_
  refine kv_iload_n dd_Txt_put_28 rfl ?_
  refine kv_iconst (v := 1) dd_Txt_put_29 (by decide) ?_
  refine kv_iadd dd_Txt_put_30 ?_
  refine kv_aload_n dd_Txt_put_31 rfl ?_
  refine kv_getI fl_Txt_35 dd_Txt_put_32 hO1 ?_
  refine kv_iload_n dd_Txt_put_35 rfl ?_
  refine kv_isub dd_Txt_put_36 ?_
  refine kv_copy sp6 dp6 N6 wm_Txt_59 wy_n wy_s wi_java_lang_System dd_Txt_put_37 hd1 (Nat.le_of_ble_eq_true rfl) hA5 hA5 hc6.1.1 hc6.1.2.1 hc6.1.2.2.1 hc6.1.2.2.2 hc6.2.1.1 hc6.2.1.2.1 hc6.2.1.2.2 hc6.2.2.1 hc6.2.2.2 ?_
  refine kv_aload_n dd_Txt_put_40 rfl ?_
  refine kv_getR fl_Txt_14 dd_Txt_put_41 hO1 hr2 ?_
  refine kv_getR fl_Txt_38 dd_Txt_put_44 hO3 hr4 ?_
  refine kv_iload_n dd_Txt_put_47 rfl ?_
  refine kv_iload_n dd_Txt_put_48 rfl ?_
  refine kv_iast j7 dd_Txt_put_49 hA5 hi7.1 hi7.2.1 hi7.2.2 ?_
  refine kv_aload_n dd_Txt_put_50 rfl ?_
  refine kv_aload_n dd_Txt_put_51 rfl ?_
  refine kv_getI fl_Txt_35 dd_Txt_put_52 hO1 ?_
  refine kv_iconst (v := 1) dd_Txt_put_55 (by decide) ?_
  refine kv_iadd dd_Txt_put_56 ?_
  exact kv_callV [.int (((kv_up (kv_cp I q4 q4 sp6 dp6 N6) q4 j7 v2) a0 1) + 1)] [] ls_Txt_65 hO1 hM dd_Txt_put_57 rfl hdp (Nat.le_of_ble_eq_true rfl) hkk hkl (fun v n' S' I' hv => kv_loc [0, 1, 2] rfl (K v n' S' I' hv))
theorem bl_Txt_put_60 {d : Nat} {B : kv_B} {Q : kv_Q} {kc ks n : Nat} {S : kv_SM} {I : kv_IM} {a0 : Nat} {v1 : Int32} {v2 : Int32} {t0 : Int32} (hQ : Q (some (.int t0)) n S I) : kv_V y_Txt_put d B Q kc ks n S I 60 [(0, .ref a0), (1, .int v1), (2, .int v2)] [.int t0] := by
  exact kv_end (v := some (.int t0)) hQ ⟨dd_Txt_put_60, .int, rfl, rfl⟩
theorem bl_Txt_changedTo_0 {d : Nat} {B : kv_B} {Q : kv_Q} {kc ks n : Nat} {S : kv_SM} {I : kv_IM} {a0 : Nat} {v1 : Int32} {r1 : Nat → Option Nat} {dc kcc ksc : Nat} {Qy : kv_Q} (hO1 : S a0 = kO 4 r1) (hM : kv_T y_Txt_forgetCuts dc kcc ksc B [.ref a0] n S (kv_up I a0 1 v1) Qy) (hdp : dc + 1 ≤ d) (hkk : kcc ≤ kc) (hkl : ksc ≤ ks) (K : ∀ v n' S' I', Qy v n' S' I' → kv_V y_Txt_changedTo d B Q (kc - kcc) (ks - ksc) n' S' I' 9 [(0, .ref a0), (1, .int v1)] (v.toList ++ [])) : kv_V y_Txt_changedTo d B Q kc ks n S I 0 [(0, .ref a0), (1, .int v1)] [] := by
  refine kv_aload_n dd_Txt_changedTo_0 rfl ?_
  refine kv_iload_n dd_Txt_changedTo_1 rfl ?_
  refine kv_putI fp_Txt_35 (fun h => by cases h) dd_Txt_changedTo_2 hO1 rfl rfl ?_
  refine kv_aload_n dd_Txt_changedTo_5 rfl ?_
  exact kv_callV [] [] ls_Txt_70 hO1 hM dd_Txt_changedTo_6 rfl hdp (Nat.le_of_ble_eq_true rfl) hkk hkl (fun v n' S' I' hv => kv_loc [0, 1] rfl (K v n' S' I' hv))
theorem bl_Txt_changedTo_9 {d : Nat} {B : kv_B} {Q : kv_Q} {kc ks n : Nat} {S : kv_SM} {I : kv_IM} {a0 : Nat} {v1 : Int32} {r1 : Nat → Option Nat} (hO1 : S a0 = kO 4 r1) (hQ : Q (some (.int (I a0 1))) n S I) : kv_V y_Txt_changedTo d B Q kc ks n S I 9 [(0, .ref a0), (1, .int v1)] [] := by
  refine kv_aload_n dd_Txt_changedTo_9 rfl ?_
  refine kv_getI fl_Txt_35 dd_Txt_changedTo_10 hO1 ?_
  exact kv_end (v := some (.int (I a0 1))) hQ ⟨dd_Txt_changedTo_13, .int, rfl, rfl⟩
theorem bl_Txt_sow_0 {d : Nat} {B : kv_B} {Q : kv_Q} {kc ks n : Nat} {S : kv_SM} {I : kv_IM} {a0 : Nat} {v1 : Int32} {v2 : Int32} {v3 : Int32} {r1 : Nat → Option Nat} (hO1 : S a0 = kO 4 r1) (Kt : v1 ≤ (1500 - (I a0 1)) → kv_V y_Txt_sow d B Q kc ks n S I 15 [(0, .ref a0), (1, .int v1), (2, .int v2), (3, .int v3)] []) (Kf : ¬ v1 ≤ (1500 - (I a0 1)) → kv_V y_Txt_sow d B Q kc ks n S I 12 [(0, .ref a0), (1, .int v1), (2, .int v2), (3, .int v3)] []) : kv_V y_Txt_sow d B Q kc ks n S I 0 [(0, .ref a0), (1, .int v1), (2, .int v2), (3, .int v3)] [] := by
  refine kv_iload_n dd_Txt_sow_0 rfl ?_
  refine kv_sipush (v := 1500) dd_Txt_sow_1 (by decide) ?_
  refine kv_aload_n dd_Txt_sow_4 rfl ?_
  refine kv_getI fl_Txt_35 dd_Txt_sow_5 hO1 ?_
  refine kv_isub dd_Txt_sow_8 ?_
  exact kv_icmp_le 15 dd_Txt_sow_9 (by decide) (fun h => kv_loc [0, 1, 2, 3] rfl (Kt h)) (fun h => kv_loc [0, 1, 2, 3] rfl (Kf h))
theorem bl_Txt_sow_12 {d : Nat} {B : kv_B} {Q : kv_Q} {kc ks n : Nat} {S : kv_SM} {I : kv_IM} {a0 : Nat} {v1 : Int32} {v2 : Int32} {v3 : Int32} (hQ : Q (some (.int ((-2)))) n S I) : kv_V y_Txt_sow d B Q kc ks n S I 12 [(0, .ref a0), (1, .int v1), (2, .int v2), (3, .int v3)] [] := by
  refine kv_bipush (v := (-2)) dd_Txt_sow_12 (by decide) ?_
  exact kv_end (v := some (.int ((-2)))) hQ ⟨dd_Txt_sow_14, .int, rfl, rfl⟩
theorem bl_Txt_sow_15 {d : Nat} {B : kv_B} {Q : kv_Q} {kc ks n : Nat} {S : kv_SM} {I : kv_IM} {a0 : Nat} {v1 : Int32} {v2 : Int32} {v3 : Int32} (K : kv_V y_Txt_sow d B Q kc ks n S I 21 [(0, .ref a0), (1, .int v1), (2, .int v2), (3, .int v3), (4, .int v2), (5, .int 0)] []) : kv_V y_Txt_sow d B Q kc ks n S I 15 [(0, .ref a0), (1, .int v1), (2, .int v2), (3, .int v3)] [] := by
  refine kv_iload_n dd_Txt_sow_15 rfl ?_
  refine kv_istore (L' := [(4, .int v2), (0, .ref a0), (1, .int v1), (2, .int v2), (3, .int v3)]) dd_Txt_sow_16 (by decide) rfl ?_
  refine kv_iconst (v := 0) dd_Txt_sow_18 (by decide) ?_
  refine kv_istore (L' := [(5, .int 0), (4, .int v2), (0, .ref a0), (1, .int v1), (2, .int v2), (3, .int v3)]) dd_Txt_sow_19 (by decide) rfl ?_
  exact kv_loc [2, 3, 4, 5, 1, 0] rfl K
theorem bl_Txt_sow_21 {d : Nat} {B : kv_B} {Q : kv_Q} {kc ks n : Nat} {S : kv_SM} {I : kv_IM} {a0 : Nat} {v1 : Int32} {v2 : Int32} {v3 : Int32} {v4 : Int32} {v5 : Int32} (Kt : v1 ≤ v5 → kv_V y_Txt_sow d B Q kc ks n S I 66 [(0, .ref a0), (1, .int v1), (2, .int v2), (3, .int v3), (4, .int v4), (5, .int v5)] []) (Kf : ¬ v1 ≤ v5 → kv_V y_Txt_sow d B Q kc ks n S I 27 [(0, .ref a0), (1, .int v1), (2, .int v2), (3, .int v3), (4, .int v4), (5, .int v5)] []) : kv_V y_Txt_sow d B Q kc ks n S I 21 [(0, .ref a0), (1, .int v1), (2, .int v2), (3, .int v3), (4, .int v4), (5, .int v5)] [] := by
  refine kv_iload dd_Txt_sow_21 rfl ?_
  refine kv_iload_n dd_Txt_sow_23 rfl ?_
  exact kv_icmp_ge 66 dd_Txt_sow_24 (by decide) (fun h => kv_loc [0, 1, 2, 3, 4, 5] rfl (Kt h)) (fun h => kv_loc [0, 1, 2, 3, 4, 5] rfl (Kf h))
theorem bl_Txt_sow_27 {d : Nat} {B : kv_B} {Q : kv_Q} {kc ks n : Nat} {S : kv_SM} {I : kv_IM} {a0 : Nat} {v1 : Int32} {v2 : Int32} {v3 : Int32} {v4 : Int32} {v5 : Int32} {r1 : Nat → Option Nat} {q2 : Nat} {r3 : Nat → Option Nat} {q4 : Nat} {m6 : Nat} {j7 : Nat} (hO1 : S a0 = kO 4 r1) (hr2 : r1 0 = some q2) (hO3 : S q2 = kO 0 r3) (hr4 : r3 0 = some q4) (hz5 : ¬ v3 = 0) (hA6 : S q4 = kI m6) (hi7 : (I a0 1) + v5 = nI j7 ∧ j7 < m6 ∧ m6 < 2 ^ 31) (K : kv_V y_Txt_sow d B Q kc ks n S (kv_up I q4 j7 (((Int32.toUInt32 ((v4 * 1103515245) + 12345) >>> (Int32.toUInt32 16 &&& Int32.toUInt32 31)).toInt32) - ((Int32.toUInt32 ((v4 * 1103515245) + 12345) >>> (Int32.toUInt32 16 &&& Int32.toUInt32 31)).toInt32) / v3 * v3)) 21 [(0, .ref a0), (1, .int v1), (2, .int v2), (3, .int v3), (4, .int ((v4 * 1103515245) + 12345)), (5, .int (v5 + 1))] []) : kv_V y_Txt_sow d B Q kc ks n S I 27 [(0, .ref a0), (1, .int v1), (2, .int v2), (3, .int v3), (4, .int v4), (5, .int v5)] [] := by
  refine kv_iload dd_Txt_sow_27 rfl ?_
  refine kv_ldc wk_Txt_69 dd_Txt_sow_29 ?_
  refine kv_imul dd_Txt_sow_31 ?_
  refine kv_sipush (v := 12345) dd_Txt_sow_32 (by decide) ?_
  refine kv_iadd dd_Txt_sow_35 ?_
  refine kv_istore (L' := [(4, .int ((v4 * 1103515245) + 12345)), (0, .ref a0), (1, .int v1), (2, .int v2), (3, .int v3), (5, .int v5)]) dd_Txt_sow_36 (by decide) rfl ?_
  refine kv_aload_n dd_Txt_sow_38 rfl ?_
  refine kv_getR fl_Txt_14 dd_Txt_sow_39 hO1 hr2 ?_
  refine kv_getR fl_Txt_38 dd_Txt_sow_42 hO3 hr4 ?_
  refine kv_aload_n dd_Txt_sow_45 rfl ?_
  refine kv_getI fl_Txt_35 dd_Txt_sow_46 hO1 ?_
  refine kv_iload dd_Txt_sow_49 rfl ?_
  refine kv_iadd dd_Txt_sow_51 ?_
  refine kv_iload dd_Txt_sow_52 rfl ?_
  refine kv_bipush (v := 16) dd_Txt_sow_54 (by decide) ?_
  refine kv_iushr dd_Txt_sow_56 ?_
  refine kv_iload_n dd_Txt_sow_57 rfl ?_
  refine kv_irem dd_Txt_sow_58 hz5 ?_
  refine kv_iast j7 dd_Txt_sow_59 hA6 hi7.1 hi7.2.1 hi7.2.2 ?_
  refine kv_iinc (v := v5 + 1) (L' := [(5, .int (v5 + 1)), (4, .int ((v4 * 1103515245) + 12345)), (0, .ref a0), (1, .int v1), (2, .int v2), (3, .int v3)]) dd_Txt_sow_60 rfl rfl (by decide) rfl ?_
  refine kv_goto 21 dd_Txt_sow_63 (by decide) ?_
  exact kv_loc [2, 3, 4, 5, 1, 0] rfl K
theorem bl_Txt_sow_66 {d : Nat} {B : kv_B} {Q : kv_Q} {kc ks n : Nat} {S : kv_SM} {I : kv_IM} {a0 : Nat} {v1 : Int32} {v2 : Int32} {v3 : Int32} {v4 : Int32} {v5 : Int32} {r1 : Nat → Option Nat} {dc kcc ksc : Nat} {Qy : kv_Q} (hO1 : S a0 = kO 4 r1) (hM : kv_T y_Txt_changedTo dc kcc ksc B [.ref a0, .int ((I a0 1) + v1)] n S I Qy) (hdp : dc + 1 ≤ d) (hkk : kcc ≤ kc) (hkl : ksc ≤ ks) (K : ∀ v n' S' I', Qy v n' S' I' → kv_V y_Txt_sow d B Q (kc - kcc) (ks - ksc) n' S' I' 76 [(0, .ref a0), (1, .int v1), (2, .int v2), (3, .int v3), (4, .int v4), (5, .int v5)] (v.toList ++ [])) : kv_V y_Txt_sow d B Q kc ks n S I 66 [(0, .ref a0), (1, .int v1), (2, .int v2), (3, .int v3), (4, .int v4), (5, .int v5)] [] := by
  refine kv_aload_n dd_Txt_sow_66 rfl ?_
  refine kv_aload_n dd_Txt_sow_67 rfl ?_
  refine kv_getI fl_Txt_35 dd_Txt_sow_68 hO1 ?_
  refine kv_iload_n dd_Txt_sow_71 rfl ?_
  refine kv_iadd dd_Txt_sow_72 ?_
  exact kv_callV [.int ((I a0 1) + v1)] [] ls_Txt_65 hO1 hM dd_Txt_sow_73 rfl hdp (Nat.le_of_ble_eq_true rfl) hkk hkl (fun v n' S' I' hv => kv_loc [0, 1, 2, 3, 4, 5] rfl (K v n' S' I' hv))
theorem bl_Txt_sow_76 {d : Nat} {B : kv_B} {Q : kv_Q} {kc ks n : Nat} {S : kv_SM} {I : kv_IM} {a0 : Nat} {v1 : Int32} {v2 : Int32} {v3 : Int32} {v4 : Int32} {v5 : Int32} {t0 : Int32} (hQ : Q (some (.int t0)) n S I) : kv_V y_Txt_sow d B Q kc ks n S I 76 [(0, .ref a0), (1, .int v1), (2, .int v2), (3, .int v3), (4, .int v4), (5, .int v5)] [.int t0] := by
  exact kv_end (v := some (.int t0)) hQ ⟨dd_Txt_sow_76, .int, rfl, rfl⟩
theorem bl_Txt_take_0 {d : Nat} {B : kv_B} {Q : kv_Q} {kc ks n : Nat} {S : kv_SM} {I : kv_IM} {a0 : Nat} {v1 : Int32} {v2 : Int32} {r1 : Nat → Option Nat} {q2 : Nat} {r3 : Nat → Option Nat} {q4 : Nat} {m5 : Nat} {sp6 dp6 N6 : Nat} {dc kcc ksc : Nat} {Qy : kv_Q} (hd1 : 1 ≤ d) (hO1 : S a0 = kO 4 r1) (hr2 : r1 0 = some q2) (hO3 : S q2 = kO 0 r3) (hr4 : r3 0 = some q4) (hA5 : S q4 = kI m5) (hc6 : (0 < m5 ∧ 0 < m5 ∧ m5 < 2 ^ 30 ∧ m5 < 2 ^ 30) ∧ (v1 + v2 = nI sp6 ∧ v1 = nI dp6 ∧ ((I a0 1) - v1) - v2 = nI N6) ∧ sp6 + N6 ≤ m5 ∧ dp6 + N6 ≤ m5) (hM : kv_T y_Txt_changedTo dc kcc ksc B [.ref a0, .int (((kv_cp I q4 q4 sp6 dp6 N6) a0 1) - v2)] n S (kv_cp I q4 q4 sp6 dp6 N6) Qy) (hdp : dc + 1 ≤ d) (hkk : kcc ≤ kc) (hkl : ksc ≤ ks) (K : ∀ v n' S' I', Qy v n' S' I' → kv_V y_Txt_take d B Q (kc - kcc) (ks - ksc) n' S' I' 39 [(0, .ref a0), (1, .int v1), (2, .int v2)] (v.toList ++ [])) : kv_V y_Txt_take d B Q kc ks n S I 0 [(0, .ref a0), (1, .int v1), (2, .int v2)] [] := by
  refine kv_aload_n dd_Txt_take_0 rfl ?_
  refine kv_getR fl_Txt_14 dd_Txt_take_1 hO1 hr2 ?_
  refine kv_getR fl_Txt_38 dd_Txt_take_4 hO3 hr4 ?_
  refine kv_iload_n dd_Txt_take_7 rfl ?_
  refine kv_iload_n dd_Txt_take_8 rfl ?_
  refine kv_iadd dd_Txt_take_9 ?_
  refine kv_aload_n dd_Txt_take_10 rfl ?_
  refine kv_getR fl_Txt_14 dd_Txt_take_11 hO1 hr2 ?_
  refine kv_getR fl_Txt_38 dd_Txt_take_14 hO3 hr4 ?_
  refine kv_iload_n dd_Txt_take_17 rfl ?_
  refine kv_aload_n dd_Txt_take_18 rfl ?_
  refine kv_getI fl_Txt_35 dd_Txt_take_19 hO1 ?_
  refine kv_iload_n dd_Txt_take_22 rfl ?_
  refine kv_isub dd_Txt_take_23 ?_
  refine kv_iload_n dd_Txt_take_24 rfl ?_
  refine kv_isub dd_Txt_take_25 ?_
  refine kv_copy sp6 dp6 N6 wm_Txt_59 wy_n wy_s wi_java_lang_System dd_Txt_take_26 hd1 (Nat.le_of_ble_eq_true rfl) hA5 hA5 hc6.1.1 hc6.1.2.1 hc6.1.2.2.1 hc6.1.2.2.2 hc6.2.1.1 hc6.2.1.2.1 hc6.2.1.2.2 hc6.2.2.1 hc6.2.2.2 ?_
  refine kv_aload_n dd_Txt_take_29 rfl ?_
  refine kv_aload_n dd_Txt_take_30 rfl ?_
  refine kv_getI fl_Txt_35 dd_Txt_take_31 hO1 ?_
  refine kv_iload_n dd_Txt_take_34 rfl ?_
  refine kv_isub dd_Txt_take_35 ?_
  exact kv_callV [.int (((kv_cp I q4 q4 sp6 dp6 N6) a0 1) - v2)] [] ls_Txt_65 hO1 hM dd_Txt_take_36 rfl hdp (Nat.le_of_ble_eq_true rfl) hkk hkl (fun v n' S' I' hv => kv_loc [0, 1, 2] rfl (K v n' S' I' hv))
theorem bl_Txt_take_39 {d : Nat} {B : kv_B} {Q : kv_Q} {kc ks n : Nat} {S : kv_SM} {I : kv_IM} {a0 : Nat} {v1 : Int32} {v2 : Int32} {t0 : Int32} (hQ : Q (some (.int t0)) n S I) : kv_V y_Txt_take d B Q kc ks n S I 39 [(0, .ref a0), (1, .int v1), (2, .int v2)] [.int t0] := by
  exact kv_end (v := some (.int t0)) hQ ⟨dd_Txt_take_39, .int, rfl, rfl⟩
theorem bl_Txt_become_0 {d : Nat} {B : kv_B} {Q : kv_Q} {kc ks n : Nat} {S : kv_SM} {I : kv_IM} {a0 : Nat} {a1 : Nat} {r1 : Nat → Option Nat} {q2 : Nat} {r3 : Nat → Option Nat} {q4 : Nat} {r5 : Nat → Option Nat} {q6 : Nat} {r7 : Nat → Option Nat} {q8 : Nat} {m9 : Nat} {m10 : Nat} {sp11 dp11 N11 : Nat} {dc kcc ksc : Nat} {Qy : kv_Q} (hd1 : 1 ≤ d) (hO1 : S a1 = kO 4 r1) (hr2 : r1 0 = some q2) (hO3 : S q2 = kO 0 r3) (hr4 : r3 0 = some q4) (hO5 : S a0 = kO 4 r5) (hr6 : r5 0 = some q6) (hO7 : S q6 = kO 0 r7) (hr8 : r7 0 = some q8) (hA9 : S q4 = kI m9) (hA10 : S q8 = kI m10) (hc11 : (0 < m9 ∧ 0 < m10 ∧ m9 < 2 ^ 30 ∧ m10 < 2 ^ 30) ∧ (0 = nI sp11 ∧ 0 = nI dp11 ∧ I a1 1 = nI N11) ∧ sp11 + N11 ≤ m9 ∧ dp11 + N11 ≤ m10) (hM : kv_T y_Txt_changedTo dc kcc ksc B [.ref a0, .int ((kv_cp I q4 q8 sp11 dp11 N11) a1 1)] n S (kv_cp I q4 q8 sp11 dp11 N11) Qy) (hdp : dc + 1 ≤ d) (hkk : kcc ≤ kc) (hkl : ksc ≤ ks) (K : ∀ v n' S' I', Qy v n' S' I' → kv_V y_Txt_become d B Q (kc - kcc) (ks - ksc) n' S' I' 31 [(0, .ref a0), (1, .ref a1)] (v.toList ++ [])) : kv_V y_Txt_become d B Q kc ks n S I 0 [(0, .ref a0), (1, .ref a1)] [] := by
  refine kv_aload_n dd_Txt_become_0 rfl ?_
  refine kv_getR fl_Txt_14 dd_Txt_become_1 hO1 hr2 ?_
  refine kv_getR fl_Txt_38 dd_Txt_become_4 hO3 hr4 ?_
  refine kv_iconst (v := 0) dd_Txt_become_7 (by decide) ?_
  refine kv_aload_n dd_Txt_become_8 rfl ?_
  refine kv_getR fl_Txt_14 dd_Txt_become_9 hO5 hr6 ?_
  refine kv_getR fl_Txt_38 dd_Txt_become_12 hO7 hr8 ?_
  refine kv_iconst (v := 0) dd_Txt_become_15 (by decide) ?_
  refine kv_aload_n dd_Txt_become_16 rfl ?_
  refine kv_getI fl_Txt_35 dd_Txt_become_17 hO1 ?_
  refine kv_copy sp11 dp11 N11 wm_Txt_59 wy_n wy_s wi_java_lang_System dd_Txt_become_20 hd1 (Nat.le_of_ble_eq_true rfl) hA9 hA10 hc11.1.1 hc11.1.2.1 hc11.1.2.2.1 hc11.1.2.2.2 hc11.2.1.1 hc11.2.1.2.1 hc11.2.1.2.2 hc11.2.2.1 hc11.2.2.2 ?_
  refine kv_aload_n dd_Txt_become_23 rfl ?_
  refine kv_aload_n dd_Txt_become_24 rfl ?_
  refine kv_getI fl_Txt_35 dd_Txt_become_25 hO1 ?_
  exact kv_callV [.int ((kv_cp I q4 q8 sp11 dp11 N11) a1 1)] [] ls_Txt_65 hO5 hM dd_Txt_become_28 rfl hdp (Nat.le_of_ble_eq_true rfl) hkk hkl (fun v n' S' I' hv => kv_loc [0, 1] rfl (K v n' S' I' hv))
theorem bl_Txt_become_31 {d : Nat} {B : kv_B} {Q : kv_Q} {kc ks n : Nat} {S : kv_SM} {I : kv_IM} {a0 : Nat} {a1 : Nat} {t0 : Int32} (hQ : Q (some (.int t0)) n S I) : kv_V y_Txt_become d B Q kc ks n S I 31 [(0, .ref a0), (1, .ref a1)] [.int t0] := by
  exact kv_end (v := some (.int t0)) hQ ⟨dd_Txt_become_31, .int, rfl, rfl⟩
theorem bl_Txt_cutBy_0 {d : Nat} {B : kv_B} {Q : kv_Q} {kc ks n : Nat} {S : kv_SM} {I : kv_IM} {a0 : Nat} {a1 : Nat} {r1 : Nat → Option Nat} (hO1 : S a0 = kO 4 r1) (Kt : (I a0 2) = 0 → kv_V y_Txt_cutBy d B Q kc ks n S I 8 [(0, .ref a0), (1, .ref a1)] []) (Kf : ¬ (I a0 2) = 0 → kv_V y_Txt_cutBy d B Q kc ks n S I 7 [(0, .ref a0), (1, .ref a1)] []) : kv_V y_Txt_cutBy d B Q kc ks n S I 0 [(0, .ref a0), (1, .ref a1)] [] := by
  refine kv_aload_n dd_Txt_cutBy_0 rfl ?_
  refine kv_getI fl_Txt_20 dd_Txt_cutBy_1 hO1 ?_
  exact kv_if_eq 8 dd_Txt_cutBy_4 (by decide) (fun h => kv_loc [0, 1] rfl (Kt h)) (fun h => kv_loc [0, 1] rfl (Kf h))
theorem bl_Txt_cutBy_7 {d : Nat} {B : kv_B} {Q : kv_Q} {kc ks n : Nat} {S : kv_SM} {I : kv_IM} {a0 : Nat} {a1 : Nat} (hQ : Q (none) n S I) : kv_V y_Txt_cutBy d B Q kc ks n S I 7 [(0, .ref a0), (1, .ref a1)] [] := by
  exact kv_end (v := none) hQ ⟨dd_Txt_cutBy_7, rfl⟩
theorem bl_Txt_cutBy_8 {d : Nat} {B : kv_B} {Q : kv_Q} {kc ks n : Nat} {S : kv_SM} {I : kv_IM} {a0 : Nat} {a1 : Nat} {r1 : Nat → Option Nat} {q2 : Nat} {r3 : Nat → Option Nat} (hO1 : S a0 = kO 4 r1) (hr2 : r1 0 = some q2) (hO3 : S q2 = kO 0 r3) (K : kv_V y_Txt_cutBy d B Q kc ks n S (kv_up I q2 5 0) 18 [(0, .ref a0), (1, .ref a1), (2, .int 0)] []) : kv_V y_Txt_cutBy d B Q kc ks n S I 8 [(0, .ref a0), (1, .ref a1)] [] := by
  refine kv_aload_n dd_Txt_cutBy_8 rfl ?_
  refine kv_getR fl_Txt_14 dd_Txt_cutBy_9 hO1 hr2 ?_
  refine kv_iconst (v := 0) dd_Txt_cutBy_12 (by decide) ?_
  refine kv_putI fp_Txt_27 (fun h => by cases h) dd_Txt_cutBy_13 hO3 rfl rfl ?_
  refine kv_iconst (v := 0) dd_Txt_cutBy_16 (by decide) ?_
  refine kv_istore_n (L' := [(2, .int 0), (0, .ref a0), (1, .ref a1)]) dd_Txt_cutBy_17 (by decide) rfl ?_
  exact kv_loc [1, 2, 0] rfl K
theorem bl_Txt_cutBy_18 {d : Nat} {B : kv_B} {Q : kv_Q} {kc ks n : Nat} {S : kv_SM} {I : kv_IM} {a0 : Nat} {a1 : Nat} {v2 : Int32} (Kt : 1500 ≤ v2 → kv_V y_Txt_cutBy d B Q kc ks n S I 74 [(0, .ref a0), (1, .ref a1), (2, .int v2)] []) (Kf : ¬ 1500 ≤ v2 → kv_V y_Txt_cutBy d B Q kc ks n S I 25 [(0, .ref a0), (1, .ref a1), (2, .int v2)] []) : kv_V y_Txt_cutBy d B Q kc ks n S I 18 [(0, .ref a0), (1, .ref a1), (2, .int v2)] [] := by
  refine kv_iload_n dd_Txt_cutBy_18 rfl ?_
  refine kv_sipush (v := 1500) dd_Txt_cutBy_19 (by decide) ?_
  exact kv_icmp_ge 74 dd_Txt_cutBy_22 (by decide) (fun h => kv_loc [0, 1, 2] rfl (Kt h)) (fun h => kv_loc [0, 1, 2] rfl (Kf h))
theorem bl_Txt_cutBy_25 {d : Nat} {B : kv_B} {Q : kv_Q} {kc ks n : Nat} {S : kv_SM} {I : kv_IM} {a0 : Nat} {a1 : Nat} {v2 : Int32} {r1 : Nat → Option Nat} {q2 : Nat} {dc kcc ksc : Nat} {Qy : kv_Q} {r3 : Nat → Option Nat} (hO1 : S a0 = kO 4 r1) (hr2 : r1 0 = some q2) (hO3 : S q2 = kO 0 r3) (hM : kv_T y_Row_end dc kcc ksc B [.ref q2] n S I Qy) (hdp : dc + 1 ≤ d) (hkk : kcc ≤ kc) (hkl : ksc ≤ ks) (K : ∀ v n' S' I', Qy v n' S' I' → kv_V y_Txt_cutBy d B Q (kc - kcc) (ks - ksc) n' S' I' 32 [(0, .ref a0), (1, .ref a1), (2, .int v2)] (v.toList ++ [])) : kv_V y_Txt_cutBy d B Q kc ks n S I 25 [(0, .ref a0), (1, .ref a1), (2, .int v2)] [] := by
  refine kv_aload_n dd_Txt_cutBy_25 rfl ?_
  refine kv_getR fl_Txt_14 dd_Txt_cutBy_26 hO1 hr2 ?_
  exact kv_callV [] [] ls_Txt_31 hO3 hM dd_Txt_cutBy_29 rfl hdp (Nat.le_of_ble_eq_true rfl) hkk hkl (fun v n' S' I' hv => kv_loc [0, 1, 2] rfl (K v n' S' I' hv))
theorem bl_Txt_cutBy_32 {d : Nat} {B : kv_B} {Q : kv_Q} {kc ks n : Nat} {S : kv_SM} {I : kv_IM} {a0 : Nat} {a1 : Nat} {v2 : Int32} {t0 : Int32} {r1 : Nat → Option Nat} (hO1 : S a0 = kO 4 r1) (Kt : (I a0 1) ≤ t0 → kv_V y_Txt_cutBy d B Q kc ks n S I 74 [(0, .ref a0), (1, .ref a1), (2, .int v2)] []) (Kf : ¬ (I a0 1) ≤ t0 → kv_V y_Txt_cutBy d B Q kc ks n S I 39 [(0, .ref a0), (1, .ref a1), (2, .int v2)] []) : kv_V y_Txt_cutBy d B Q kc ks n S I 32 [(0, .ref a0), (1, .ref a1), (2, .int v2)] [.int t0] := by
  refine kv_aload_n dd_Txt_cutBy_32 rfl ?_
  refine kv_getI fl_Txt_35 dd_Txt_cutBy_33 hO1 ?_
  exact kv_icmp_ge 74 dd_Txt_cutBy_36 (by decide) (fun h => kv_loc [0, 1, 2] rfl (Kt h)) (fun h => kv_loc [0, 1, 2] rfl (Kf h))
theorem bl_Txt_cutBy_39 {d : Nat} {B : kv_B} {Q : kv_Q} {kc ks n : Nat} {S : kv_SM} {I : kv_IM} {a0 : Nat} {a1 : Nat} {v2 : Int32} {r1 : Nat → Option Nat} {q2 : Nat} {r3 : Nat → Option Nat} {q4 : Nat} {dc kcc ksc : Nat} {Qy : kv_Q} (hO1 : S a0 = kO 4 r1) (hr2 : r1 0 = some q2) (hO3 : S q2 = kO 0 r3) (hr4 : r3 0 = some q4) (hM : kv_T y_Row_end dc kcc ksc B [.ref q2] n S I Qy) (hdp : dc + 1 ≤ d) (hkk : kcc ≤ kc) (hkl : ksc ≤ ks) (K : ∀ v n' S' I', Qy v n' S' I' → kv_V y_Txt_cutBy d B Q (kc - kcc) (ks - ksc) n' S' I' 58 [(0, .ref a0), (1, .ref a1), (2, .int v2)] (v.toList ++ [.ref q4, .ref a1, .ref q2])) : kv_V y_Txt_cutBy d B Q kc ks n S I 39 [(0, .ref a0), (1, .ref a1), (2, .int v2)] [] := by
  refine kv_aload_n dd_Txt_cutBy_39 rfl ?_
  refine kv_getR fl_Txt_14 dd_Txt_cutBy_40 hO1 hr2 ?_
  refine kv_aload_n dd_Txt_cutBy_43 rfl ?_
  refine kv_aload_n dd_Txt_cutBy_44 rfl ?_
  refine kv_getR fl_Txt_14 dd_Txt_cutBy_45 hO1 hr2 ?_
  refine kv_getR fl_Txt_38 dd_Txt_cutBy_48 hO3 hr4 ?_
  refine kv_aload_n dd_Txt_cutBy_51 rfl ?_
  refine kv_getR fl_Txt_14 dd_Txt_cutBy_52 hO1 hr2 ?_
  exact kv_callV [] [.ref q4, .ref a1, .ref q2] ls_Txt_31 hO3 hM dd_Txt_cutBy_55 rfl hdp (Nat.le_of_ble_eq_true rfl) hkk hkl (fun v n' S' I' hv => kv_loc [0, 1, 2] rfl (K v n' S' I' hv))
theorem bl_Txt_cutBy_58 {d : Nat} {B : kv_B} {Q : kv_Q} {kc ks n : Nat} {S : kv_SM} {I : kv_IM} {a0 : Nat} {a1 : Nat} {v2 : Int32} {t0 : Int32} {t1 : Nat} {t2 : Nat} {t3 : Nat} {r1 : Nat → Option Nat} {dc kcc ksc : Nat} {Qy : kv_Q} {r2 : Nat → Option Nat} (hO1 : S a0 = kO 4 r1) (hO2 : S t2 = kO 1 r2) (hM : kv_T y_Rul_endOfBlock dc kcc ksc B [.ref t2, .ref t1, .int t0, .int (I a0 1)] n S I Qy) (hdp : dc + 1 ≤ d) (hkk : kcc ≤ kc) (hkl : ksc ≤ ks) (K : ∀ v n' S' I', Qy v n' S' I' → kv_V y_Txt_cutBy d B Q (kc - kcc) (ks - ksc) n' S' I' 65 [(0, .ref a0), (1, .ref a1), (2, .int v2)] (v.toList ++ [.ref t3])) : kv_V y_Txt_cutBy d B Q kc ks n S I 58 [(0, .ref a0), (1, .ref a1), (2, .int v2)] [.int t0, .ref t1, .ref t2, .ref t3] := by
  refine kv_aload_n dd_Txt_cutBy_58 rfl ?_
  refine kv_getI fl_Txt_35 dd_Txt_cutBy_59 hO1 ?_
  exact kv_callV [.ref t1, .int t0, .int (I a0 1)] [.ref t3] ls_Txt_42 hO2 hM dd_Txt_cutBy_62 rfl hdp (Nat.le_of_ble_eq_true rfl) hkk hkl (fun v n' S' I' hv => kv_loc [0, 1, 2] rfl (K v n' S' I' hv))
theorem bl_Txt_cutBy_65 {d : Nat} {B : kv_B} {Q : kv_Q} {kc ks n : Nat} {S : kv_SM} {I : kv_IM} {a0 : Nat} {a1 : Nat} {v2 : Int32} {t0 : Int32} {t1 : Nat} {dc kcc ksc : Nat} {Qy : kv_Q} {r1 : Nat → Option Nat} (hO1 : S t1 = kO 0 r1) (hM : kv_T y_Row_close dc kcc ksc B [.ref t1, .int t0] n S I Qy) (hdp : dc + 1 ≤ d) (hkk : kcc ≤ kc) (hkl : ksc ≤ ks) (K : ∀ v n' S' I', Qy v n' S' I' → kv_V y_Txt_cutBy d B Q (kc - kcc) (ks - ksc) n' S' I' 68 [(0, .ref a0), (1, .ref a1), (2, .int v2)] (v.toList ++ [])) : kv_V y_Txt_cutBy d B Q kc ks n S I 65 [(0, .ref a0), (1, .ref a1), (2, .int v2)] [.int t0, .ref t1] := by
  exact kv_callV [.int t0] [] ls_Txt_48 hO1 hM dd_Txt_cutBy_65 rfl hdp (Nat.le_of_ble_eq_true rfl) hkk hkl (fun v n' S' I' hv => kv_loc [0, 1, 2] rfl (K v n' S' I' hv))
theorem bl_Txt_cutBy_68 {d : Nat} {B : kv_B} {Q : kv_Q} {kc ks n : Nat} {S : kv_SM} {I : kv_IM} {a0 : Nat} {a1 : Nat} {v2 : Int32} (K : kv_V y_Txt_cutBy d B Q kc ks n S I 18 [(0, .ref a0), (1, .ref a1), (2, .int (v2 + 1))] []) : kv_V y_Txt_cutBy d B Q kc ks n S I 68 [(0, .ref a0), (1, .ref a1), (2, .int v2)] [] := by
  refine kv_iinc (v := v2 + 1) (L' := [(2, .int (v2 + 1)), (0, .ref a0), (1, .ref a1)]) dd_Txt_cutBy_68 rfl rfl (by decide) rfl ?_
  refine kv_goto 18 dd_Txt_cutBy_71 (by decide) ?_
  exact kv_loc [1, 2, 0] rfl K
theorem bl_Txt_cutBy_74 {d : Nat} {B : kv_B} {Q : kv_Q} {kc ks n : Nat} {S : kv_SM} {I : kv_IM} {a0 : Nat} {a1 : Nat} {v2 : Int32} {r1 : Nat → Option Nat} (hO1 : S a0 = kO 4 r1) (hQ : Q (none) n S (kv_up I a0 2 1)) : kv_V y_Txt_cutBy d B Q kc ks n S I 74 [(0, .ref a0), (1, .ref a1), (2, .int v2)] [] := by
  refine kv_aload_n dd_Txt_cutBy_74 rfl ?_
  refine kv_iconst (v := 1) dd_Txt_cutBy_75 (by decide) ?_
  refine kv_putI fp_Txt_20 (fun h => by cases h) dd_Txt_cutBy_76 hO1 rfl rfl ?_
  exact kv_end (v := none) hQ ⟨dd_Txt_cutBy_79, rfl⟩
theorem bl_Row_end_0 {d : Nat} {B : kv_B} {Q : kv_Q} {kc ks n : Nat} {S : kv_SM} {I : kv_IM} {a0 : Nat} {r1 : Nat → Option Nat} {q2 : Nat} {m3 : Nat} {j4 : Nat} (hO1 : S a0 = kO 0 r1) (hr2 : r1 1 = some q2) (hA3 : S q2 = kI m3) (hi4 : I a0 5 = nI j4 ∧ j4 < m3 ∧ m3 < 2 ^ 31) (hQ : Q (some (.int (I q2 j4))) n S I) : kv_V y_Row_end d B Q kc ks n S I 0 [(0, .ref a0)] [] := by
  refine kv_aload_n dd_Row_end_0 rfl ?_
  refine kv_getR fl_Row_15 dd_Row_end_1 hO1 hr2 ?_
  refine kv_aload_n dd_Row_end_4 rfl ?_
  refine kv_getI fl_Row_30 dd_Row_end_5 hO1 ?_
  refine kv_iald j4 dd_Row_end_8 hA3 hi4.1 hi4.2.1 hi4.2.2 ?_
  exact kv_end (v := some (.int (I q2 j4))) hQ ⟨dd_Row_end_9, .int, rfl, rfl⟩
theorem bl_Rul_endOfBlock_0 {d : Nat} {B : kv_B} {Q : kv_Q} {kc ks n : Nat} {S : kv_SM} {I : kv_IM} {a0 : Nat} {a1 : Nat} {v2 : Int32} {v3 : Int32} (K : kv_V y_Rul_endOfBlock d B Q kc ks n S I 9 [(0, .ref a0), (1, .ref a1), (2, .int v2), (3, .int v3), (4, .int 0), (5, .int ((-1))), (6, .int v2)] []) : kv_V y_Rul_endOfBlock d B Q kc ks n S I 0 [(0, .ref a0), (1, .ref a1), (2, .int v2), (3, .int v3)] [] := by
  refine kv_iconst (v := 0) dd_Rul_endOfBlock_0 (by decide) ?_
  refine kv_istore (L' := [(4, .int 0), (0, .ref a0), (1, .ref a1), (2, .int v2), (3, .int v3)]) dd_Rul_endOfBlock_1 (by decide) rfl ?_
  refine kv_iconst (v := (-1)) dd_Rul_endOfBlock_3 (by decide) ?_
  refine kv_istore (L' := [(5, .int ((-1))), (4, .int 0), (0, .ref a0), (1, .ref a1), (2, .int v2), (3, .int v3)]) dd_Rul_endOfBlock_4 (by decide) rfl ?_
  refine kv_iload_n dd_Rul_endOfBlock_6 rfl ?_
  refine kv_istore (L' := [(6, .int v2), (5, .int ((-1))), (4, .int 0), (0, .ref a0), (1, .ref a1), (2, .int v2), (3, .int v3)]) dd_Rul_endOfBlock_7 (by decide) rfl ?_
  exact kv_loc [3, 4, 5, 6, 2, 1, 0] rfl K
theorem bl_Rul_endOfBlock_9 {d : Nat} {B : kv_B} {Q : kv_Q} {kc ks n : Nat} {S : kv_SM} {I : kv_IM} {a0 : Nat} {a1 : Nat} {v2 : Int32} {v3 : Int32} {v4 : Int32} {v5 : Int32} {v6 : Int32} (Kt : v3 ≤ v6 → kv_V y_Rul_endOfBlock d B Q kc ks n S I 133 [(0, .ref a0), (1, .ref a1), (2, .int v2), (3, .int v3), (4, .int v4), (5, .int v5), (6, .int v6)] []) (Kf : ¬ v3 ≤ v6 → kv_V y_Rul_endOfBlock d B Q kc ks n S I 15 [(0, .ref a0), (1, .ref a1), (2, .int v2), (3, .int v3), (4, .int v4), (5, .int v5), (6, .int v6)] []) : kv_V y_Rul_endOfBlock d B Q kc ks n S I 9 [(0, .ref a0), (1, .ref a1), (2, .int v2), (3, .int v3), (4, .int v4), (5, .int v5), (6, .int v6)] [] := by
  refine kv_iload dd_Rul_endOfBlock_9 rfl ?_
  refine kv_iload_n dd_Rul_endOfBlock_11 rfl ?_
  exact kv_icmp_ge 133 dd_Rul_endOfBlock_12 (by decide) (fun h => kv_loc [0, 1, 2, 3, 4, 5, 6] rfl (Kt h)) (fun h => kv_loc [0, 1, 2, 3, 4, 5, 6] rfl (Kf h))
theorem bl_Rul_endOfBlock_15 {d : Nat} {B : kv_B} {Q : kv_Q} {kc ks n : Nat} {S : kv_SM} {I : kv_IM} {a0 : Nat} {a1 : Nat} {v2 : Int32} {v3 : Int32} {v4 : Int32} {v5 : Int32} {v6 : Int32} {dc kcc ksc : Nat} {Qy : kv_Q} {r1 : Nat → Option Nat} (hO1 : S a0 = kO 1 r1) (hM : kv_T y_Rul_numberWith dc kcc ksc B [.ref a0, .int v4, .ref a1, .int v2, .int v6] n S I Qy) (hdp : dc + 1 ≤ d) (hkk : kcc ≤ kc) (hkl : ksc ≤ ks) (K : ∀ v n' S' I', Qy v n' S' I' → kv_V y_Rul_endOfBlock d B Q (kc - kcc) (ks - ksc) n' S' I' 25 [(0, .ref a0), (1, .ref a1), (2, .int v2), (3, .int v3), (4, .int v4), (5, .int v5), (6, .int v6)] (v.toList ++ [])) : kv_V y_Rul_endOfBlock d B Q kc ks n S I 15 [(0, .ref a0), (1, .ref a1), (2, .int v2), (3, .int v3), (4, .int v4), (5, .int v5), (6, .int v6)] [] := by
  refine kv_aload_n dd_Rul_endOfBlock_15 rfl ?_
  refine kv_iload dd_Rul_endOfBlock_16 rfl ?_
  refine kv_aload_n dd_Rul_endOfBlock_18 rfl ?_
  refine kv_iload_n dd_Rul_endOfBlock_19 rfl ?_
  refine kv_iload dd_Rul_endOfBlock_20 rfl ?_
  exact kv_callV [.int v4, .ref a1, .int v2, .int v6] [] ls_Rul_44 hO1 hM dd_Rul_endOfBlock_22 rfl hdp (Nat.le_of_ble_eq_true rfl) hkk hkl (fun v n' S' I' hv => kv_loc [0, 1, 2, 3, 4, 5, 6] rfl (K v n' S' I' hv))
theorem bl_Rul_endOfBlock_25 {d : Nat} {B : kv_B} {Q : kv_Q} {kc ks n : Nat} {S : kv_SM} {I : kv_IM} {a0 : Nat} {a1 : Nat} {v2 : Int32} {v3 : Int32} {v4 : Int32} {v5 : Int32} {v6 : Int32} {t0 : Int32} {dc kcc ksc : Nat} {Qy : kv_Q} {r1 : Nat → Option Nat} (hO1 : S a0 = kO 1 r1) (hM : kv_T y_Rul_allowed dc kcc ksc B [.ref a0, .int ((v6 - v2) + 1)] n S I Qy) (hdp : dc + 1 ≤ d) (hkk : kcc ≤ kc) (hkl : ksc ≤ ks) (K : ∀ v n' S' I', Qy v n' S' I' → kv_V y_Rul_endOfBlock d B Q (kc - kcc) (ks - ksc) n' S' I' 41 [(0, .ref a0), (1, .ref a1), (2, .int v2), (3, .int v3), (4, .int t0), (5, .int v5), (6, .int v6), (7, .int ((v6 - v2) + 1))] (v.toList ++ [])) : kv_V y_Rul_endOfBlock d B Q kc ks n S I 25 [(0, .ref a0), (1, .ref a1), (2, .int v2), (3, .int v3), (4, .int v4), (5, .int v5), (6, .int v6)] [.int t0] := by
  refine kv_istore (L' := [(4, .int t0), (0, .ref a0), (1, .ref a1), (2, .int v2), (3, .int v3), (5, .int v5), (6, .int v6)]) dd_Rul_endOfBlock_25 (by decide) rfl ?_
  refine kv_iload dd_Rul_endOfBlock_27 rfl ?_
  refine kv_iload_n dd_Rul_endOfBlock_29 rfl ?_
  refine kv_isub dd_Rul_endOfBlock_30 ?_
  refine kv_iconst (v := 1) dd_Rul_endOfBlock_31 (by decide) ?_
  refine kv_iadd dd_Rul_endOfBlock_32 ?_
  refine kv_istore (L' := [(7, .int ((v6 - v2) + 1)), (4, .int t0), (0, .ref a0), (1, .ref a1), (2, .int v2), (3, .int v3), (5, .int v5), (6, .int v6)]) dd_Rul_endOfBlock_33 (by decide) rfl ?_
  refine kv_aload_n dd_Rul_endOfBlock_35 rfl ?_
  refine kv_iload dd_Rul_endOfBlock_36 rfl ?_
  exact kv_callV [.int ((v6 - v2) + 1)] [] ls_Rul_48 hO1 hM dd_Rul_endOfBlock_38 rfl hdp (Nat.le_of_ble_eq_true rfl) hkk hkl (fun v n' S' I' hv => kv_loc [2, 3, 4, 5, 1, 6, 7, 0] rfl (K v n' S' I' hv))
theorem bl_Rul_endOfBlock_41 {d : Nat} {B : kv_B} {Q : kv_Q} {kc ks n : Nat} {S : kv_SM} {I : kv_IM} {a0 : Nat} {a1 : Nat} {v2 : Int32} {v3 : Int32} {v4 : Int32} {v5 : Int32} {v6 : Int32} {v7 : Int32} {t0 : Int32} (Kt : ¬ t0 = 0 → kv_V y_Rul_endOfBlock d B Q kc ks n S I 47 [(0, .ref a0), (1, .ref a1), (2, .int v2), (3, .int v3), (4, .int v4), (5, .int v5), (6, .int v6), (7, .int v7)] []) (Kf : t0 = 0 → kv_V y_Rul_endOfBlock d B Q kc ks n S I 44 [(0, .ref a0), (1, .ref a1), (2, .int v2), (3, .int v3), (4, .int v4), (5, .int v5), (6, .int v6), (7, .int v7)] []) : kv_V y_Rul_endOfBlock d B Q kc ks n S I 41 [(0, .ref a0), (1, .ref a1), (2, .int v2), (3, .int v3), (4, .int v4), (5, .int v5), (6, .int v6), (7, .int v7)] [.int t0] := by
  exact kv_if_ne 47 dd_Rul_endOfBlock_41 (by decide) (fun h => kv_loc [0, 1, 2, 3, 4, 5, 6, 7] rfl (Kt h)) (fun h => kv_loc [0, 1, 2, 3, 4, 5, 6, 7] rfl (Kf h))
theorem bl_Rul_endOfBlock_44 {d : Nat} {B : kv_B} {Q : kv_Q} {kc ks n : Nat} {S : kv_SM} {I : kv_IM} {a0 : Nat} {a1 : Nat} {v2 : Int32} {v3 : Int32} {v4 : Int32} {v5 : Int32} {v6 : Int32} {v7 : Int32} (K : kv_V y_Rul_endOfBlock d B Q kc ks n S I 127 [(0, .ref a0), (1, .ref a1), (2, .int v2), (3, .int v3), (4, .int v4), (5, .int v5), (6, .int v6), (7, .int v7)] []) : kv_V y_Rul_endOfBlock d B Q kc ks n S I 44 [(0, .ref a0), (1, .ref a1), (2, .int v2), (3, .int v3), (4, .int v4), (5, .int v5), (6, .int v6), (7, .int v7)] [] := by
  refine kv_goto 127 dd_Rul_endOfBlock_44 (by decide) ?_
  exact kv_loc [0, 1, 2, 3, 4, 5, 6, 7] rfl K
theorem bl_Rul_endOfBlock_47 {d : Nat} {B : kv_B} {Q : kv_Q} {kc ks n : Nat} {S : kv_SM} {I : kv_IM} {a0 : Nat} {a1 : Nat} {v2 : Int32} {v3 : Int32} {v4 : Int32} {v5 : Int32} {v6 : Int32} {v7 : Int32} {dc kcc ksc : Nat} {Qy : kv_Q} {r1 : Nat → Option Nat} (hO1 : S a0 = kO 1 r1) (hM : kv_T y_Rul_marksAt dc kcc ksc B [.ref a0, .int v7] n S I Qy) (hdp : dc + 1 ≤ d) (hkk : kcc ≤ kc) (hkl : ksc ≤ ks) (K : ∀ v n' S' I', Qy v n' S' I' → kv_V y_Rul_endOfBlock d B Q (kc - kcc) (ks - ksc) n' S' I' 55 [(0, .ref a0), (1, .ref a1), (2, .int v2), (3, .int v3), (4, .int v4), (5, .int v5), (6, .int v6), (7, .int v7)] (v.toList ++ [.int v4])) : kv_V y_Rul_endOfBlock d B Q kc ks n S I 47 [(0, .ref a0), (1, .ref a1), (2, .int v2), (3, .int v3), (4, .int v4), (5, .int v5), (6, .int v6), (7, .int v7)] [] := by
  refine kv_iload dd_Rul_endOfBlock_47 rfl ?_
  refine kv_aload_n dd_Rul_endOfBlock_49 rfl ?_
  refine kv_iload dd_Rul_endOfBlock_50 rfl ?_
  exact kv_callV [.int v7] [.int v4] ls_Rul_52 hO1 hM dd_Rul_endOfBlock_52 rfl hdp (Nat.le_of_ble_eq_true rfl) hkk hkl (fun v n' S' I' hv => kv_loc [0, 1, 2, 3, 4, 5, 6, 7] rfl (K v n' S' I' hv))
theorem bl_Rul_endOfBlock_55 {d : Nat} {B : kv_B} {Q : kv_Q} {kc ks n : Nat} {S : kv_SM} {I : kv_IM} {a0 : Nat} {a1 : Nat} {v2 : Int32} {v3 : Int32} {v4 : Int32} {v5 : Int32} {v6 : Int32} {v7 : Int32} {t0 : Int32} {t1 : Int32} {dc kcc ksc : Nat} {Qy : kv_Q} (hM : kv_T y_Rul_marked dc kcc ksc B [.int t1, .int t0] n S I Qy) (hdp : dc + 1 ≤ d) (hkk : kcc ≤ kc) (hkl : ksc ≤ ks) (K : ∀ v n' S' I', Qy v n' S' I' → kv_V y_Rul_endOfBlock d B Q (kc - kcc) (ks - ksc) n' S' I' 58 [(0, .ref a0), (1, .ref a1), (2, .int v2), (3, .int v3), (4, .int v4), (5, .int v5), (6, .int v6), (7, .int v7)] (v.toList ++ [])) : kv_V y_Rul_endOfBlock d B Q kc ks n S I 55 [(0, .ref a0), (1, .ref a1), (2, .int v2), (3, .int v3), (4, .int v4), (5, .int v5), (6, .int v6), (7, .int v7)] [.int t0, .int t1] := by
  exact kv_callS [.int t1, .int t0] [] ls_Rul_56 hM dd_Rul_endOfBlock_55 rfl hdp (Nat.le_of_ble_eq_true rfl) hkk hkl (fun v n' S' I' hv => kv_loc [0, 1, 2, 3, 4, 5, 6, 7] rfl (K v n' S' I' hv))
theorem bl_Rul_endOfBlock_58 {d : Nat} {B : kv_B} {Q : kv_Q} {kc ks n : Nat} {S : kv_SM} {I : kv_IM} {a0 : Nat} {a1 : Nat} {v2 : Int32} {v3 : Int32} {v4 : Int32} {v5 : Int32} {v6 : Int32} {v7 : Int32} {t0 : Int32} (Kt : t0 = 0 → kv_V y_Rul_endOfBlock d B Q kc ks n S I 66 [(0, .ref a0), (1, .ref a1), (2, .int v2), (3, .int v3), (4, .int v4), (5, .int v5), (6, .int v6), (7, .int v7)] []) (Kf : ¬ t0 = 0 → kv_V y_Rul_endOfBlock d B Q kc ks n S I 61 [(0, .ref a0), (1, .ref a1), (2, .int v2), (3, .int v3), (4, .int v4), (5, .int v5), (6, .int v6), (7, .int v7)] []) : kv_V y_Rul_endOfBlock d B Q kc ks n S I 58 [(0, .ref a0), (1, .ref a1), (2, .int v2), (3, .int v3), (4, .int v4), (5, .int v5), (6, .int v6), (7, .int v7)] [.int t0] := by
  exact kv_if_eq 66 dd_Rul_endOfBlock_58 (by decide) (fun h => kv_loc [0, 1, 2, 3, 4, 5, 6, 7] rfl (Kt h)) (fun h => kv_loc [0, 1, 2, 3, 4, 5, 6, 7] rfl (Kf h))
theorem bl_Rul_endOfBlock_61 {d : Nat} {B : kv_B} {Q : kv_Q} {kc ks n : Nat} {S : kv_SM} {I : kv_IM} {a0 : Nat} {a1 : Nat} {v2 : Int32} {v3 : Int32} {v4 : Int32} {v5 : Int32} {v6 : Int32} {v7 : Int32} (hQ : Q (some (.int (v6 + 1))) n S I) : kv_V y_Rul_endOfBlock d B Q kc ks n S I 61 [(0, .ref a0), (1, .ref a1), (2, .int v2), (3, .int v3), (4, .int v4), (5, .int v5), (6, .int v6), (7, .int v7)] [] := by
  refine kv_iload dd_Rul_endOfBlock_61 rfl ?_
  refine kv_iconst (v := 1) dd_Rul_endOfBlock_63 (by decide) ?_
  refine kv_iadd dd_Rul_endOfBlock_64 ?_
  exact kv_end (v := some (.int (v6 + 1))) hQ ⟨dd_Rul_endOfBlock_65, .int, rfl, rfl⟩
theorem bl_Rul_endOfBlock_66 {d : Nat} {B : kv_B} {Q : kv_Q} {kc ks n : Nat} {S : kv_SM} {I : kv_IM} {a0 : Nat} {a1 : Nat} {v2 : Int32} {v3 : Int32} {v4 : Int32} {v5 : Int32} {v6 : Int32} {v7 : Int32} {r1 : Nat → Option Nat} (hO1 : S a0 = kO 1 r1) (Kt : (v7 + (I a0 6)) ≤ (I a0 3) → kv_V y_Rul_endOfBlock d B Q kc ks n S I 96 [(0, .ref a0), (1, .ref a1), (2, .int v2), (3, .int v3), (4, .int v4), (5, .int v5), (6, .int v6), (7, .int v7)] []) (Kf : ¬ (v7 + (I a0 6)) ≤ (I a0 3) → kv_V y_Rul_endOfBlock d B Q kc ks n S I 80 [(0, .ref a0), (1, .ref a1), (2, .int v2), (3, .int v3), (4, .int v4), (5, .int v5), (6, .int v6), (7, .int v7)] []) : kv_V y_Rul_endOfBlock d B Q kc ks n S I 66 [(0, .ref a0), (1, .ref a1), (2, .int v2), (3, .int v3), (4, .int v4), (5, .int v5), (6, .int v6), (7, .int v7)] [] := by
  refine kv_iload dd_Rul_endOfBlock_66 rfl ?_
  refine kv_aload_n dd_Rul_endOfBlock_68 rfl ?_
  refine kv_getI fl_Rul_39 dd_Rul_endOfBlock_69 hO1 ?_
  refine kv_iadd dd_Rul_endOfBlock_72 ?_
  refine kv_aload_n dd_Rul_endOfBlock_73 rfl ?_
  refine kv_getI fl_Rul_30 dd_Rul_endOfBlock_74 hO1 ?_
  exact kv_icmp_le 96 dd_Rul_endOfBlock_77 (by decide) (fun h => kv_loc [0, 1, 2, 3, 4, 5, 6, 7] rfl (Kt h)) (fun h => kv_loc [0, 1, 2, 3, 4, 5, 6, 7] rfl (Kf h))
theorem bl_Rul_endOfBlock_80 {d : Nat} {B : kv_B} {Q : kv_Q} {kc ks n : Nat} {S : kv_SM} {I : kv_IM} {a0 : Nat} {a1 : Nat} {v2 : Int32} {v3 : Int32} {v4 : Int32} {v5 : Int32} {v6 : Int32} {v7 : Int32} (Kt : ¬ v5 = ((-1)) → kv_V y_Rul_endOfBlock d B Q kc ks n S I 93 [(0, .ref a0), (1, .ref a1), (2, .int v2), (3, .int v3), (4, .int v4), (5, .int v5), (6, .int v6), (7, .int v7)] []) (Kf : v5 = ((-1)) → kv_V y_Rul_endOfBlock d B Q kc ks n S I 86 [(0, .ref a0), (1, .ref a1), (2, .int v2), (3, .int v3), (4, .int v4), (5, .int v5), (6, .int v6), (7, .int v7)] []) : kv_V y_Rul_endOfBlock d B Q kc ks n S I 80 [(0, .ref a0), (1, .ref a1), (2, .int v2), (3, .int v3), (4, .int v4), (5, .int v5), (6, .int v6), (7, .int v7)] [] := by
  refine kv_iload dd_Rul_endOfBlock_80 rfl ?_
  refine kv_iconst (v := (-1)) dd_Rul_endOfBlock_82 (by decide) ?_
  exact kv_icmp_ne 93 dd_Rul_endOfBlock_83 (by decide) (fun h => kv_loc [0, 1, 2, 3, 4, 5, 6, 7] rfl (Kt h)) (fun h => kv_loc [0, 1, 2, 3, 4, 5, 6, 7] rfl (Kf h))
theorem bl_Rul_endOfBlock_86 {d : Nat} {B : kv_B} {Q : kv_Q} {kc ks n : Nat} {S : kv_SM} {I : kv_IM} {a0 : Nat} {a1 : Nat} {v2 : Int32} {v3 : Int32} {v4 : Int32} {v5 : Int32} {v6 : Int32} {v7 : Int32} (K : kv_V y_Rul_endOfBlock d B Q kc ks n S I 95 [(0, .ref a0), (1, .ref a1), (2, .int v2), (3, .int v3), (4, .int v4), (5, .int v5), (6, .int v6), (7, .int v7)] [.int (v6 + 1)]) : kv_V y_Rul_endOfBlock d B Q kc ks n S I 86 [(0, .ref a0), (1, .ref a1), (2, .int v2), (3, .int v3), (4, .int v4), (5, .int v5), (6, .int v6), (7, .int v7)] [] := by
  refine kv_iload dd_Rul_endOfBlock_86 rfl ?_
  refine kv_iconst (v := 1) dd_Rul_endOfBlock_88 (by decide) ?_
  refine kv_iadd dd_Rul_endOfBlock_89 ?_
  refine kv_goto 95 dd_Rul_endOfBlock_90 (by decide) ?_
  exact kv_loc [0, 1, 2, 3, 4, 5, 6, 7] rfl K
theorem bl_Rul_endOfBlock_93 {d : Nat} {B : kv_B} {Q : kv_Q} {kc ks n : Nat} {S : kv_SM} {I : kv_IM} {a0 : Nat} {a1 : Nat} {v2 : Int32} {v3 : Int32} {v4 : Int32} {v5 : Int32} {v6 : Int32} {v7 : Int32} (K : kv_V y_Rul_endOfBlock d B Q kc ks n S I 95 [(0, .ref a0), (1, .ref a1), (2, .int v2), (3, .int v3), (4, .int v4), (5, .int v5), (6, .int v6), (7, .int v7)] [.int v5]) : kv_V y_Rul_endOfBlock d B Q kc ks n S I 93 [(0, .ref a0), (1, .ref a1), (2, .int v2), (3, .int v3), (4, .int v4), (5, .int v5), (6, .int v6), (7, .int v7)] [] := by
  refine kv_iload dd_Rul_endOfBlock_93 rfl ?_
  exact kv_loc [0, 1, 2, 3, 4, 5, 6, 7] rfl K
theorem bl_Rul_endOfBlock_95 {d : Nat} {B : kv_B} {Q : kv_Q} {kc ks n : Nat} {S : kv_SM} {I : kv_IM} {a0 : Nat} {a1 : Nat} {v2 : Int32} {v3 : Int32} {v4 : Int32} {v5 : Int32} {v6 : Int32} {v7 : Int32} {t0 : Int32} (hQ : Q (some (.int t0)) n S I) : kv_V y_Rul_endOfBlock d B Q kc ks n S I 95 [(0, .ref a0), (1, .ref a1), (2, .int v2), (3, .int v3), (4, .int v4), (5, .int v5), (6, .int v6), (7, .int v7)] [.int t0] := by
  exact kv_end (v := some (.int t0)) hQ ⟨dd_Rul_endOfBlock_95, .int, rfl, rfl⟩
theorem bl_Rul_endOfBlock_96 {d : Nat} {B : kv_B} {Q : kv_Q} {kc ks n : Nat} {S : kv_SM} {I : kv_IM} {a0 : Nat} {a1 : Nat} {v2 : Int32} {v3 : Int32} {v4 : Int32} {v5 : Int32} {v6 : Int32} {v7 : Int32} {r1 : Nat → Option Nat} (hO1 : S a0 = kO 1 r1) (Kt : ¬ (I a0 1) = 2 → kv_V y_Rul_endOfBlock d B Q kc ks n S I 127 [(0, .ref a0), (1, .ref a1), (2, .int v2), (3, .int v3), (4, .int v4), (5, .int v5), (6, .int v6), (7, .int v7)] []) (Kf : (I a0 1) = 2 → kv_V y_Rul_endOfBlock d B Q kc ks n S I 104 [(0, .ref a0), (1, .ref a1), (2, .int v2), (3, .int v3), (4, .int v4), (5, .int v5), (6, .int v6), (7, .int v7)] []) : kv_V y_Rul_endOfBlock d B Q kc ks n S I 96 [(0, .ref a0), (1, .ref a1), (2, .int v2), (3, .int v3), (4, .int v4), (5, .int v5), (6, .int v6), (7, .int v7)] [] := by
  refine kv_aload_n dd_Rul_endOfBlock_96 rfl ?_
  refine kv_getI fl_Rul_23 dd_Rul_endOfBlock_97 hO1 ?_
  refine kv_iconst (v := 2) dd_Rul_endOfBlock_100 (by decide) ?_
  exact kv_icmp_ne 127 dd_Rul_endOfBlock_101 (by decide) (fun h => kv_loc [0, 1, 2, 3, 4, 5, 6, 7] rfl (Kt h)) (fun h => kv_loc [0, 1, 2, 3, 4, 5, 6, 7] rfl (Kf h))
theorem bl_Rul_endOfBlock_104 {d : Nat} {B : kv_B} {Q : kv_Q} {kc ks n : Nat} {S : kv_SM} {I : kv_IM} {a0 : Nat} {a1 : Nat} {v2 : Int32} {v3 : Int32} {v4 : Int32} {v5 : Int32} {v6 : Int32} {v7 : Int32} {r1 : Nat → Option Nat} {dc kcc ksc : Nat} {Qy : kv_Q} (hO1 : S a0 = kO 1 r1) (hM : kv_T y_Rul_marked dc kcc ksc B [.int v4, .int ((I a0 4) - (I a0 5))] n S I Qy) (hdp : dc + 1 ≤ d) (hkk : kcc ≤ kc) (hkl : ksc ≤ ks) (K : ∀ v n' S' I', Qy v n' S' I' → kv_V y_Rul_endOfBlock d B Q (kc - kcc) (ks - ksc) n' S' I' 118 [(0, .ref a0), (1, .ref a1), (2, .int v2), (3, .int v3), (4, .int v4), (5, .int v5), (6, .int v6), (7, .int v7)] (v.toList ++ [])) : kv_V y_Rul_endOfBlock d B Q kc ks n S I 104 [(0, .ref a0), (1, .ref a1), (2, .int v2), (3, .int v3), (4, .int v4), (5, .int v5), (6, .int v6), (7, .int v7)] [] := by
  refine kv_iload dd_Rul_endOfBlock_104 rfl ?_
  refine kv_aload_n dd_Rul_endOfBlock_106 rfl ?_
  refine kv_getI fl_Rul_33 dd_Rul_endOfBlock_107 hO1 ?_
  refine kv_aload_n dd_Rul_endOfBlock_110 rfl ?_
  refine kv_getI fl_Rul_36 dd_Rul_endOfBlock_111 hO1 ?_
  refine kv_isub dd_Rul_endOfBlock_114 ?_
  exact kv_callS [.int v4, .int ((I a0 4) - (I a0 5))] [] ls_Rul_56 hM dd_Rul_endOfBlock_115 rfl hdp (Nat.le_of_ble_eq_true rfl) hkk hkl (fun v n' S' I' hv => kv_loc [0, 1, 2, 3, 4, 5, 6, 7] rfl (K v n' S' I' hv))
theorem bl_Rul_endOfBlock_118 {d : Nat} {B : kv_B} {Q : kv_Q} {kc ks n : Nat} {S : kv_SM} {I : kv_IM} {a0 : Nat} {a1 : Nat} {v2 : Int32} {v3 : Int32} {v4 : Int32} {v5 : Int32} {v6 : Int32} {v7 : Int32} {t0 : Int32} (Kt : t0 = 0 → kv_V y_Rul_endOfBlock d B Q kc ks n S I 127 [(0, .ref a0), (1, .ref a1), (2, .int v2), (3, .int v3), (4, .int v4), (5, .int v5), (6, .int v6), (7, .int v7)] []) (Kf : ¬ t0 = 0 → kv_V y_Rul_endOfBlock d B Q kc ks n S I 121 [(0, .ref a0), (1, .ref a1), (2, .int v2), (3, .int v3), (4, .int v4), (5, .int v5), (6, .int v6), (7, .int v7)] []) : kv_V y_Rul_endOfBlock d B Q kc ks n S I 118 [(0, .ref a0), (1, .ref a1), (2, .int v2), (3, .int v3), (4, .int v4), (5, .int v5), (6, .int v6), (7, .int v7)] [.int t0] := by
  exact kv_if_eq 127 dd_Rul_endOfBlock_118 (by decide) (fun h => kv_loc [0, 1, 2, 3, 4, 5, 6, 7] rfl (Kt h)) (fun h => kv_loc [0, 1, 2, 3, 4, 5, 6, 7] rfl (Kf h))
theorem bl_Rul_endOfBlock_121 {d : Nat} {B : kv_B} {Q : kv_Q} {kc ks n : Nat} {S : kv_SM} {I : kv_IM} {a0 : Nat} {a1 : Nat} {v2 : Int32} {v3 : Int32} {v4 : Int32} {v5 : Int32} {v6 : Int32} {v7 : Int32} (K : kv_V y_Rul_endOfBlock d B Q kc ks n S I 127 [(0, .ref a0), (1, .ref a1), (2, .int v2), (3, .int v3), (4, .int v4), (5, .int (v6 + 1)), (6, .int v6), (7, .int v7)] []) : kv_V y_Rul_endOfBlock d B Q kc ks n S I 121 [(0, .ref a0), (1, .ref a1), (2, .int v2), (3, .int v3), (4, .int v4), (5, .int v5), (6, .int v6), (7, .int v7)] [] := by
  refine kv_iload dd_Rul_endOfBlock_121 rfl ?_
  refine kv_iconst (v := 1) dd_Rul_endOfBlock_123 (by decide) ?_
  refine kv_iadd dd_Rul_endOfBlock_124 ?_
  refine kv_istore (L' := [(5, .int (v6 + 1)), (0, .ref a0), (1, .ref a1), (2, .int v2), (3, .int v3), (4, .int v4), (6, .int v6), (7, .int v7)]) dd_Rul_endOfBlock_125 (by decide) rfl ?_
  exact kv_loc [1, 2, 3, 4, 5, 0, 6, 7] rfl K
theorem bl_Rul_endOfBlock_127 {d : Nat} {B : kv_B} {Q : kv_Q} {kc ks n : Nat} {S : kv_SM} {I : kv_IM} {a0 : Nat} {a1 : Nat} {v2 : Int32} {v3 : Int32} {v4 : Int32} {v5 : Int32} {v6 : Int32} {v7 : Int32} (K : kv_V y_Rul_endOfBlock d B Q kc ks n S I 9 [(0, .ref a0), (1, .ref a1), (2, .int v2), (3, .int v3), (4, .int v4), (5, .int v5), (6, .int (v6 + 1))] []) : kv_V y_Rul_endOfBlock d B Q kc ks n S I 127 [(0, .ref a0), (1, .ref a1), (2, .int v2), (3, .int v3), (4, .int v4), (5, .int v5), (6, .int v6), (7, .int v7)] [] := by
  refine kv_iinc (v := v6 + 1) (L' := [(6, .int (v6 + 1)), (0, .ref a0), (1, .ref a1), (2, .int v2), (3, .int v3), (4, .int v4), (5, .int v5), (7, .int v7)]) dd_Rul_endOfBlock_127 rfl rfl (by decide) rfl ?_
  refine kv_goto 9 dd_Rul_endOfBlock_130 (by decide) ?_
  exact kv_loc [1, 2, 3, 4, 5, 6, 0] rfl K
theorem bl_Rul_endOfBlock_133 {d : Nat} {B : kv_B} {Q : kv_Q} {kc ks n : Nat} {S : kv_SM} {I : kv_IM} {a0 : Nat} {a1 : Nat} {v2 : Int32} {v3 : Int32} {v4 : Int32} {v5 : Int32} {v6 : Int32} (hQ : Q (some (.int v3)) n S I) : kv_V y_Rul_endOfBlock d B Q kc ks n S I 133 [(0, .ref a0), (1, .ref a1), (2, .int v2), (3, .int v3), (4, .int v4), (5, .int v5), (6, .int v6)] [] := by
  refine kv_iload_n dd_Rul_endOfBlock_133 rfl ?_
  exact kv_end (v := some (.int v3)) hQ ⟨dd_Rul_endOfBlock_134, .int, rfl, rfl⟩
theorem bl_Rul_numberWith_0 {d : Nat} {B : kv_B} {Q : kv_Q} {kc ks n : Nat} {S : kv_SM} {I : kv_IM} {a0 : Nat} {v1 : Int32} {a2 : Nat} {v3 : Int32} {v4 : Int32} {r1 : Nat → Option Nat} {q2 : Nat} {m3 : Nat} {j4 : Nat} {m5 : Nat} {j6 : Nat} (hO1 : S a0 = kO 1 r1) (hr2 : r1 0 = some q2) (hA3 : S a2 = kI m3) (hi4 : v4 = nI j4 ∧ j4 < m3 ∧ m3 < 2 ^ 31) (hA5 : S q2 = kI m5) (hi6 : I a2 j4 = nI j6 ∧ j6 < m5 ∧ m5 < 2 ^ 31) (Kt : (I a0 1) = 3 → kv_V y_Rul_numberWith d B Q kc ks n S I 26 [(0, .ref a0), (1, .int v1), (2, .ref a2), (3, .int v3), (4, .int v4), (5, .int (I q2 j6))] []) (Kf : ¬ (I a0 1) = 3 → kv_V y_Rul_numberWith d B Q kc ks n S I 19 [(0, .ref a0), (1, .int v1), (2, .ref a2), (3, .int v3), (4, .int v4), (5, .int (I q2 j6))] []) : kv_V y_Rul_numberWith d B Q kc ks n S I 0 [(0, .ref a0), (1, .int v1), (2, .ref a2), (3, .int v3), (4, .int v4)] [] := by
  refine kv_aload_n dd_Rul_numberWith_0 rfl ?_
  refine kv_getR fl_Rul_9 dd_Rul_numberWith_1 hO1 hr2 ?_
  refine kv_aload_n dd_Rul_numberWith_4 rfl ?_
  refine kv_iload dd_Rul_numberWith_5 rfl ?_
  refine kv_iald j4 dd_Rul_numberWith_7 hA3 hi4.1 hi4.2.1 hi4.2.2 ?_
  refine kv_iald j6 dd_Rul_numberWith_8 hA5 hi6.1 hi6.2.1 hi6.2.2 ?_
  refine kv_istore (L' := [(5, .int (I q2 j6)), (0, .ref a0), (1, .int v1), (2, .ref a2), (3, .int v3), (4, .int v4)]) dd_Rul_numberWith_9 (by decide) rfl ?_
  refine kv_aload_n dd_Rul_numberWith_11 rfl ?_
  refine kv_getI fl_Rul_23 dd_Rul_numberWith_12 hO1 ?_
  refine kv_iconst (v := 3) dd_Rul_numberWith_15 (by decide) ?_
  exact kv_icmp_eq 26 dd_Rul_numberWith_16 (by decide) (fun h => kv_loc [1, 2, 3, 4, 5, 0] rfl (Kt h)) (fun h => kv_loc [1, 2, 3, 4, 5, 0] rfl (Kf h))
theorem bl_Rul_numberWith_19 {d : Nat} {B : kv_B} {Q : kv_Q} {kc ks n : Nat} {S : kv_SM} {I : kv_IM} {a0 : Nat} {v1 : Int32} {a2 : Nat} {v3 : Int32} {v4 : Int32} {v5 : Int32} (hQ : Q (some (.int ((v1 <<< (1 &&& 31)) + v5))) n S I) : kv_V y_Rul_numberWith d B Q kc ks n S I 19 [(0, .ref a0), (1, .int v1), (2, .ref a2), (3, .int v3), (4, .int v4), (5, .int v5)] [] := by
  refine kv_iload_n dd_Rul_numberWith_19 rfl ?_
  refine kv_iconst (v := 1) dd_Rul_numberWith_20 (by decide) ?_
  refine kv_ishl dd_Rul_numberWith_21 ?_
  refine kv_iload dd_Rul_numberWith_22 rfl ?_
  refine kv_iadd dd_Rul_numberWith_24 ?_
  exact kv_end (v := some (.int ((v1 <<< (1 &&& 31)) + v5))) hQ ⟨dd_Rul_numberWith_25, .int, rfl, rfl⟩
theorem bl_Rul_numberWith_26 {d : Nat} {B : kv_B} {Q : kv_Q} {kc ks n : Nat} {S : kv_SM} {I : kv_IM} {a0 : Nat} {v1 : Int32} {a2 : Nat} {v3 : Int32} {v4 : Int32} {v5 : Int32} {dc kcc ksc : Nat} {Qy : kv_Q} (hM : kv_T y_Rul_turnedLeft dc kcc ksc B [.int v1, .int 1] n S I Qy) (hdp : dc + 1 ≤ d) (hkk : kcc ≤ kc) (hkl : ksc ≤ ks) (K : ∀ v n' S' I', Qy v n' S' I' → kv_V y_Rul_numberWith d B Q (kc - kcc) (ks - ksc) n' S' I' 31 [(0, .ref a0), (1, .int v1), (2, .ref a2), (3, .int v3), (4, .int v4), (5, .int v5)] (v.toList ++ [])) : kv_V y_Rul_numberWith d B Q kc ks n S I 26 [(0, .ref a0), (1, .int v1), (2, .ref a2), (3, .int v3), (4, .int v4), (5, .int v5)] [] := by
  refine kv_iload_n dd_Rul_numberWith_26 rfl ?_
  refine kv_iconst (v := 1) dd_Rul_numberWith_27 (by decide) ?_
  exact kv_callS [.int v1, .int 1] [] ls_Rul_60 hM dd_Rul_numberWith_28 rfl hdp (Nat.le_of_ble_eq_true rfl) hkk hkl (fun v n' S' I' hv => kv_loc [0, 1, 2, 3, 4, 5] rfl (K v n' S' I' hv))
theorem bl_Rul_numberWith_31 {d : Nat} {B : kv_B} {Q : kv_Q} {kc ks n : Nat} {S : kv_SM} {I : kv_IM} {a0 : Nat} {v1 : Int32} {a2 : Nat} {v3 : Int32} {v4 : Int32} {v5 : Int32} {t0 : Int32} (Kt : 16 ≤ (v4 - v3) → kv_V y_Rul_numberWith d B Q kc ks n S I 48 [(0, .ref a0), (1, .int v1), (2, .ref a2), (3, .int v3), (4, .int v4), (5, .int v5), (6, .int (t0 ^^^ v5))] []) (Kf : ¬ 16 ≤ (v4 - v3) → kv_V y_Rul_numberWith d B Q kc ks n S I 45 [(0, .ref a0), (1, .int v1), (2, .ref a2), (3, .int v3), (4, .int v4), (5, .int v5), (6, .int (t0 ^^^ v5))] []) : kv_V y_Rul_numberWith d B Q kc ks n S I 31 [(0, .ref a0), (1, .int v1), (2, .ref a2), (3, .int v3), (4, .int v4), (5, .int v5)] [.int t0] := by
  refine kv_iload dd_Rul_numberWith_31 rfl ?_
  refine kv_ixor dd_Rul_numberWith_33 ?_
  refine kv_istore (L' := [(6, .int (t0 ^^^ v5)), (0, .ref a0), (1, .int v1), (2, .ref a2), (3, .int v3), (4, .int v4), (5, .int v5)]) dd_Rul_numberWith_34 (by decide) rfl ?_
  refine kv_iload dd_Rul_numberWith_36 rfl ?_
  refine kv_iload_n dd_Rul_numberWith_38 rfl ?_
  refine kv_isub dd_Rul_numberWith_39 ?_
  refine kv_bipush (v := 16) dd_Rul_numberWith_40 (by decide) ?_
  exact kv_icmp_ge 48 dd_Rul_numberWith_42 (by decide) (fun h => kv_loc [1, 2, 3, 4, 5, 6, 0] rfl (Kt h)) (fun h => kv_loc [1, 2, 3, 4, 5, 6, 0] rfl (Kf h))
theorem bl_Rul_numberWith_45 {d : Nat} {B : kv_B} {Q : kv_Q} {kc ks n : Nat} {S : kv_SM} {I : kv_IM} {a0 : Nat} {v1 : Int32} {a2 : Nat} {v3 : Int32} {v4 : Int32} {v5 : Int32} {v6 : Int32} (hQ : Q (some (.int v6)) n S I) : kv_V y_Rul_numberWith d B Q kc ks n S I 45 [(0, .ref a0), (1, .int v1), (2, .ref a2), (3, .int v3), (4, .int v4), (5, .int v5), (6, .int v6)] [] := by
  refine kv_iload dd_Rul_numberWith_45 rfl ?_
  exact kv_end (v := some (.int v6)) hQ ⟨dd_Rul_numberWith_47, .int, rfl, rfl⟩
theorem bl_Rul_numberWith_48 {d : Nat} {B : kv_B} {Q : kv_Q} {kc ks n : Nat} {S : kv_SM} {I : kv_IM} {a0 : Nat} {v1 : Int32} {a2 : Nat} {v3 : Int32} {v4 : Int32} {v5 : Int32} {v6 : Int32} {r1 : Nat → Option Nat} {q2 : Nat} {m3 : Nat} {j4 : Nat} {m5 : Nat} {j6 : Nat} {dc kcc ksc : Nat} {Qy : kv_Q} (hO1 : S a0 = kO 1 r1) (hr2 : r1 0 = some q2) (hA3 : S a2 = kI m3) (hi4 : v4 - 16 = nI j4 ∧ j4 < m3 ∧ m3 < 2 ^ 31) (hA5 : S q2 = kI m5) (hi6 : I a2 j4 = nI j6 ∧ j6 < m5 ∧ m5 < 2 ^ 31) (hM : kv_T y_Rul_turnedLeft dc kcc ksc B [.int (I q2 j6), .int 16] n S I Qy) (hdp : dc + 1 ≤ d) (hkk : kcc ≤ kc) (hkl : ksc ≤ ks) (K : ∀ v n' S' I', Qy v n' S' I' → kv_V y_Rul_numberWith d B Q (kc - kcc) (ks - ksc) n' S' I' 67 [(0, .ref a0), (1, .int v1), (2, .ref a2), (3, .int v3), (4, .int v4), (5, .int v5), (6, .int v6)] (v.toList ++ [.int v6])) : kv_V y_Rul_numberWith d B Q kc ks n S I 48 [(0, .ref a0), (1, .int v1), (2, .ref a2), (3, .int v3), (4, .int v4), (5, .int v5), (6, .int v6)] [] := by
  refine kv_iload dd_Rul_numberWith_48 rfl ?_
  refine kv_aload_n dd_Rul_numberWith_50 rfl ?_
  refine kv_getR fl_Rul_9 dd_Rul_numberWith_51 hO1 hr2 ?_
  refine kv_aload_n dd_Rul_numberWith_54 rfl ?_
  refine kv_iload dd_Rul_numberWith_55 rfl ?_
  refine kv_bipush (v := 16) dd_Rul_numberWith_57 (by decide) ?_
  refine kv_isub dd_Rul_numberWith_59 ?_
  refine kv_iald j4 dd_Rul_numberWith_60 hA3 hi4.1 hi4.2.1 hi4.2.2 ?_
  refine kv_iald j6 dd_Rul_numberWith_61 hA5 hi6.1 hi6.2.1 hi6.2.2 ?_
  refine kv_bipush (v := 16) dd_Rul_numberWith_62 (by decide) ?_
  exact kv_callS [.int (I q2 j6), .int 16] [.int v6] ls_Rul_60 hM dd_Rul_numberWith_64 rfl hdp (Nat.le_of_ble_eq_true rfl) hkk hkl (fun v n' S' I' hv => kv_loc [0, 1, 2, 3, 4, 5, 6] rfl (K v n' S' I' hv))
theorem bl_Rul_numberWith_67 {d : Nat} {B : kv_B} {Q : kv_Q} {kc ks n : Nat} {S : kv_SM} {I : kv_IM} {a0 : Nat} {v1 : Int32} {a2 : Nat} {v3 : Int32} {v4 : Int32} {v5 : Int32} {v6 : Int32} {t0 : Int32} {t1 : Int32} (hQ : Q (some (.int (t1 ^^^ t0))) n S I) : kv_V y_Rul_numberWith d B Q kc ks n S I 67 [(0, .ref a0), (1, .int v1), (2, .ref a2), (3, .int v3), (4, .int v4), (5, .int v5), (6, .int v6)] [.int t0, .int t1] := by
  refine kv_ixor dd_Rul_numberWith_67 ?_
  exact kv_end (v := some (.int (t1 ^^^ t0))) hQ ⟨dd_Rul_numberWith_68, .int, rfl, rfl⟩
theorem bl_Rul_turnedLeft_0 {d : Nat} {B : kv_B} {Q : kv_Q} {kc ks n : Nat} {S : kv_SM} {I : kv_IM} {v0 : Int32} {v1 : Int32} (hQ : Q (some (.int ((v0 <<< (v1 &&& 31)) ||| ((Int32.toUInt32 v0 >>> (Int32.toUInt32 (32 - v1) &&& Int32.toUInt32 31)).toInt32)))) n S I) : kv_V y_Rul_turnedLeft d B Q kc ks n S I 0 [(0, .int v0), (1, .int v1)] [] := by
  refine kv_iload_n dd_Rul_turnedLeft_0 rfl ?_
  refine kv_iload_n dd_Rul_turnedLeft_1 rfl ?_
  refine kv_ishl dd_Rul_turnedLeft_2 ?_
  refine kv_iload_n dd_Rul_turnedLeft_3 rfl ?_
  refine kv_bipush (v := 32) dd_Rul_turnedLeft_4 (by decide) ?_
  refine kv_iload_n dd_Rul_turnedLeft_6 rfl ?_
  refine kv_isub dd_Rul_turnedLeft_7 ?_
  refine kv_iushr dd_Rul_turnedLeft_8 ?_
  refine kv_ior dd_Rul_turnedLeft_9 ?_
  exact kv_end (v := some (.int ((v0 <<< (v1 &&& 31)) ||| ((Int32.toUInt32 v0 >>> (Int32.toUInt32 (32 - v1) &&& Int32.toUInt32 31)).toInt32)))) hQ ⟨dd_Rul_turnedLeft_10, .int, rfl, rfl⟩
theorem bl_Rul_allowed_0 {d : Nat} {B : kv_B} {Q : kv_Q} {kc ks n : Nat} {S : kv_SM} {I : kv_IM} {a0 : Nat} {v1 : Int32} {r1 : Nat → Option Nat} (hO1 : S a0 = kO 1 r1) (Kt : v1 < (I a0 2) → kv_V y_Rul_allowed d B Q kc ks n S I 28 [(0, .ref a0), (1, .int v1)] []) (Kf : ¬ v1 < (I a0 2) → kv_V y_Rul_allowed d B Q kc ks n S I 8 [(0, .ref a0), (1, .int v1)] []) : kv_V y_Rul_allowed d B Q kc ks n S I 0 [(0, .ref a0), (1, .int v1)] [] := by
  refine kv_iload_n dd_Rul_allowed_0 rfl ?_
  refine kv_aload_n dd_Rul_allowed_1 rfl ?_
  refine kv_getI fl_Rul_27 dd_Rul_allowed_2 hO1 ?_
  exact kv_icmp_lt 28 dd_Rul_allowed_5 (by decide) (fun h => kv_loc [0, 1] rfl (Kt h)) (fun h => kv_loc [0, 1] rfl (Kf h))
theorem bl_Rul_allowed_8 {d : Nat} {B : kv_B} {Q : kv_Q} {kc ks n : Nat} {S : kv_SM} {I : kv_IM} {a0 : Nat} {v1 : Int32} {r1 : Nat → Option Nat} (hO1 : S a0 = kO 1 r1) (Kt : (I a0 6) ≤ 0 → kv_V y_Rul_allowed d B Q kc ks n S I 28 [(0, .ref a0), (1, .int v1)] []) (Kf : ¬ (I a0 6) ≤ 0 → kv_V y_Rul_allowed d B Q kc ks n S I 15 [(0, .ref a0), (1, .int v1)] []) : kv_V y_Rul_allowed d B Q kc ks n S I 8 [(0, .ref a0), (1, .int v1)] [] := by
  refine kv_aload_n dd_Rul_allowed_8 rfl ?_
  refine kv_getI fl_Rul_39 dd_Rul_allowed_9 hO1 ?_
  exact kv_if_le 28 dd_Rul_allowed_12 (by decide) (fun h => kv_loc [0, 1] rfl (Kt h)) (fun h => kv_loc [0, 1] rfl (Kf h))
theorem bl_Rul_allowed_15 {d : Nat} {B : kv_B} {Q : kv_Q} {kc ks n : Nat} {S : kv_SM} {I : kv_IM} {a0 : Nat} {v1 : Int32} {r1 : Nat → Option Nat} (hO1 : S a0 = kO 1 r1) (hz2 : ¬ I a0 6 = 0) (Kt : ¬ (v1 - v1 / (I a0 6) * (I a0 6)) = 0 → kv_V y_Rul_allowed d B Q kc ks n S I 28 [(0, .ref a0), (1, .int v1)] []) (Kf : (v1 - v1 / (I a0 6) * (I a0 6)) = 0 → kv_V y_Rul_allowed d B Q kc ks n S I 24 [(0, .ref a0), (1, .int v1)] []) : kv_V y_Rul_allowed d B Q kc ks n S I 15 [(0, .ref a0), (1, .int v1)] [] := by
  refine kv_iload_n dd_Rul_allowed_15 rfl ?_
  refine kv_aload_n dd_Rul_allowed_16 rfl ?_
  refine kv_getI fl_Rul_39 dd_Rul_allowed_17 hO1 ?_
  refine kv_irem dd_Rul_allowed_20 hz2 ?_
  exact kv_if_ne 28 dd_Rul_allowed_21 (by decide) (fun h => kv_loc [0, 1] rfl (Kt h)) (fun h => kv_loc [0, 1] rfl (Kf h))
theorem bl_Rul_allowed_24 {d : Nat} {B : kv_B} {Q : kv_Q} {kc ks n : Nat} {S : kv_SM} {I : kv_IM} {a0 : Nat} {v1 : Int32} (K : kv_V y_Rul_allowed d B Q kc ks n S I 29 [(0, .ref a0), (1, .int v1)] [.int 1]) : kv_V y_Rul_allowed d B Q kc ks n S I 24 [(0, .ref a0), (1, .int v1)] [] := by
  refine kv_iconst (v := 1) dd_Rul_allowed_24 (by decide) ?_
  refine kv_goto 29 dd_Rul_allowed_25 (by decide) ?_
  exact kv_loc [0, 1] rfl K
theorem bl_Rul_allowed_28 {d : Nat} {B : kv_B} {Q : kv_Q} {kc ks n : Nat} {S : kv_SM} {I : kv_IM} {a0 : Nat} {v1 : Int32} (K : kv_V y_Rul_allowed d B Q kc ks n S I 29 [(0, .ref a0), (1, .int v1)] [.int 0]) : kv_V y_Rul_allowed d B Q kc ks n S I 28 [(0, .ref a0), (1, .int v1)] [] := by
  refine kv_iconst (v := 0) dd_Rul_allowed_28 (by decide) ?_
  exact kv_loc [0, 1] rfl K
theorem bl_Rul_allowed_29 {d : Nat} {B : kv_B} {Q : kv_Q} {kc ks n : Nat} {S : kv_SM} {I : kv_IM} {a0 : Nat} {v1 : Int32} {t0 : Int32} (hb : narrow .boolean (.int t0) = .int t0) (hQ : Q (some (.int t0)) n S I) : kv_V y_Rul_allowed d B Q kc ks n S I 29 [(0, .ref a0), (1, .int v1)] [.int t0] := by
  exact kv_end (v := some (.int t0)) hQ ⟨dd_Rul_allowed_29, .boolean, rfl, hb⟩
theorem bl_Rul_marksAt_0 {d : Nat} {B : kv_B} {Q : kv_Q} {kc ks n : Nat} {S : kv_SM} {I : kv_IM} {a0 : Nat} {v1 : Int32} {r1 : Nat → Option Nat} (hO1 : S a0 = kO 1 r1) (Kt : (I a0 1) = 1 → kv_V y_Rul_marksAt d B Q kc ks n S I 13 [(0, .ref a0), (1, .int v1)] []) (Kf : ¬ (I a0 1) = 1 → kv_V y_Rul_marksAt d B Q kc ks n S I 8 [(0, .ref a0), (1, .int v1)] []) : kv_V y_Rul_marksAt d B Q kc ks n S I 0 [(0, .ref a0), (1, .int v1)] [] := by
  refine kv_aload_n dd_Rul_marksAt_0 rfl ?_
  refine kv_getI fl_Rul_23 dd_Rul_marksAt_1 hO1 ?_
  refine kv_iconst (v := 1) dd_Rul_marksAt_4 (by decide) ?_
  exact kv_icmp_eq 13 dd_Rul_marksAt_5 (by decide) (fun h => kv_loc [0, 1] rfl (Kt h)) (fun h => kv_loc [0, 1] rfl (Kf h))
theorem bl_Rul_marksAt_8 {d : Nat} {B : kv_B} {Q : kv_Q} {kc ks n : Nat} {S : kv_SM} {I : kv_IM} {a0 : Nat} {v1 : Int32} {r1 : Nat → Option Nat} (hO1 : S a0 = kO 1 r1) (hQ : Q (some (.int (I a0 4))) n S I) : kv_V y_Rul_marksAt d B Q kc ks n S I 8 [(0, .ref a0), (1, .int v1)] [] := by
  refine kv_aload_n dd_Rul_marksAt_8 rfl ?_
  refine kv_getI fl_Rul_33 dd_Rul_marksAt_9 hO1 ?_
  exact kv_end (v := some (.int (I a0 4))) hQ ⟨dd_Rul_marksAt_12, .int, rfl, rfl⟩
theorem bl_Rul_marksAt_13 {d : Nat} {B : kv_B} {Q : kv_Q} {kc ks n : Nat} {S : kv_SM} {I : kv_IM} {a0 : Nat} {v1 : Int32} {r1 : Nat → Option Nat} (hO1 : S a0 = kO 1 r1) (Kt : (1 <<< ((I a0 4) &&& 31)) ≤ v1 → kv_V y_Rul_marksAt d B Q kc ks n S I 35 [(0, .ref a0), (1, .int v1)] []) (Kf : ¬ (1 <<< ((I a0 4) &&& 31)) ≤ v1 → kv_V y_Rul_marksAt d B Q kc ks n S I 23 [(0, .ref a0), (1, .int v1)] []) : kv_V y_Rul_marksAt d B Q kc ks n S I 13 [(0, .ref a0), (1, .int v1)] [] := by
  refine kv_iload_n dd_Rul_marksAt_13 rfl ?_
  refine kv_iconst (v := 1) dd_Rul_marksAt_14 (by decide) ?_
  refine kv_aload_n dd_Rul_marksAt_15 rfl ?_
  refine kv_getI fl_Rul_33 dd_Rul_marksAt_16 hO1 ?_
  refine kv_ishl dd_Rul_marksAt_19 ?_
  exact kv_icmp_ge 35 dd_Rul_marksAt_20 (by decide) (fun h => kv_loc [0, 1] rfl (Kt h)) (fun h => kv_loc [0, 1] rfl (Kf h))
theorem bl_Rul_marksAt_23 {d : Nat} {B : kv_B} {Q : kv_Q} {kc ks n : Nat} {S : kv_SM} {I : kv_IM} {a0 : Nat} {v1 : Int32} {r1 : Nat → Option Nat} (hO1 : S a0 = kO 1 r1) (K : kv_V y_Rul_marksAt d B Q kc ks n S I 44 [(0, .ref a0), (1, .int v1)] [.int ((I a0 4) + (I a0 5))]) : kv_V y_Rul_marksAt d B Q kc ks n S I 23 [(0, .ref a0), (1, .int v1)] [] := by
  refine kv_aload_n dd_Rul_marksAt_23 rfl ?_
  refine kv_getI fl_Rul_33 dd_Rul_marksAt_24 hO1 ?_
  refine kv_aload_n dd_Rul_marksAt_27 rfl ?_
  refine kv_getI fl_Rul_36 dd_Rul_marksAt_28 hO1 ?_
  refine kv_iadd dd_Rul_marksAt_31 ?_
  refine kv_goto 44 dd_Rul_marksAt_32 (by decide) ?_
  exact kv_loc [0, 1] rfl K
theorem bl_Rul_marksAt_35 {d : Nat} {B : kv_B} {Q : kv_Q} {kc ks n : Nat} {S : kv_SM} {I : kv_IM} {a0 : Nat} {v1 : Int32} {r1 : Nat → Option Nat} (hO1 : S a0 = kO 1 r1) (K : kv_V y_Rul_marksAt d B Q kc ks n S I 44 [(0, .ref a0), (1, .int v1)] [.int ((I a0 4) - (I a0 5))]) : kv_V y_Rul_marksAt d B Q kc ks n S I 35 [(0, .ref a0), (1, .int v1)] [] := by
  refine kv_aload_n dd_Rul_marksAt_35 rfl ?_
  refine kv_getI fl_Rul_33 dd_Rul_marksAt_36 hO1 ?_
  refine kv_aload_n dd_Rul_marksAt_39 rfl ?_
  refine kv_getI fl_Rul_36 dd_Rul_marksAt_40 hO1 ?_
  refine kv_isub dd_Rul_marksAt_43 ?_
  exact kv_loc [0, 1] rfl K
theorem bl_Rul_marksAt_44 {d : Nat} {B : kv_B} {Q : kv_Q} {kc ks n : Nat} {S : kv_SM} {I : kv_IM} {a0 : Nat} {v1 : Int32} {t0 : Int32} (hQ : Q (some (.int t0)) n S I) : kv_V y_Rul_marksAt d B Q kc ks n S I 44 [(0, .ref a0), (1, .int v1)] [.int t0] := by
  exact kv_end (v := some (.int t0)) hQ ⟨dd_Rul_marksAt_44, .int, rfl, rfl⟩
theorem bl_Rul_marked_0 {d : Nat} {B : kv_B} {Q : kv_Q} {kc ks n : Nat} {S : kv_SM} {I : kv_IM} {v0 : Int32} {v1 : Int32} (Kt : v1 = 0 → kv_V y_Rul_marked d B Q kc ks n S I 13 [(0, .int v0), (1, .int v1)] []) (Kf : ¬ v1 = 0 → kv_V y_Rul_marked d B Q kc ks n S I 4 [(0, .int v0), (1, .int v1)] []) : kv_V y_Rul_marked d B Q kc ks n S I 0 [(0, .int v0), (1, .int v1)] [] := by
  refine kv_iload_n dd_Rul_marked_0 rfl ?_
  exact kv_if_eq 13 dd_Rul_marked_1 (by decide) (fun h => kv_loc [0, 1] rfl (Kt h)) (fun h => kv_loc [0, 1] rfl (Kf h))
theorem bl_Rul_marked_4 {d : Nat} {B : kv_B} {Q : kv_Q} {kc ks n : Nat} {S : kv_SM} {I : kv_IM} {v0 : Int32} {v1 : Int32} (Kt : ¬ ((Int32.toUInt32 v0 >>> (Int32.toUInt32 (32 - v1) &&& Int32.toUInt32 31)).toInt32) = 0 → kv_V y_Rul_marked d B Q kc ks n S I 17 [(0, .int v0), (1, .int v1)] []) (Kf : ((Int32.toUInt32 v0 >>> (Int32.toUInt32 (32 - v1) &&& Int32.toUInt32 31)).toInt32) = 0 → kv_V y_Rul_marked d B Q kc ks n S I 13 [(0, .int v0), (1, .int v1)] []) : kv_V y_Rul_marked d B Q kc ks n S I 4 [(0, .int v0), (1, .int v1)] [] := by
  refine kv_iload_n dd_Rul_marked_4 rfl ?_
  refine kv_bipush (v := 32) dd_Rul_marked_5 (by decide) ?_
  refine kv_iload_n dd_Rul_marked_7 rfl ?_
  refine kv_isub dd_Rul_marked_8 ?_
  refine kv_iushr dd_Rul_marked_9 ?_
  exact kv_if_ne 17 dd_Rul_marked_10 (by decide) (fun h => kv_loc [0, 1] rfl (Kt h)) (fun h => kv_loc [0, 1] rfl (Kf h))
theorem bl_Rul_marked_13 {d : Nat} {B : kv_B} {Q : kv_Q} {kc ks n : Nat} {S : kv_SM} {I : kv_IM} {v0 : Int32} {v1 : Int32} (K : kv_V y_Rul_marked d B Q kc ks n S I 18 [(0, .int v0), (1, .int v1)] [.int 1]) : kv_V y_Rul_marked d B Q kc ks n S I 13 [(0, .int v0), (1, .int v1)] [] := by
  refine kv_iconst (v := 1) dd_Rul_marked_13 (by decide) ?_
  refine kv_goto 18 dd_Rul_marked_14 (by decide) ?_
  exact kv_loc [0, 1] rfl K
theorem bl_Rul_marked_17 {d : Nat} {B : kv_B} {Q : kv_Q} {kc ks n : Nat} {S : kv_SM} {I : kv_IM} {v0 : Int32} {v1 : Int32} (K : kv_V y_Rul_marked d B Q kc ks n S I 18 [(0, .int v0), (1, .int v1)] [.int 0]) : kv_V y_Rul_marked d B Q kc ks n S I 17 [(0, .int v0), (1, .int v1)] [] := by
  refine kv_iconst (v := 0) dd_Rul_marked_17 (by decide) ?_
  exact kv_loc [0, 1] rfl K
theorem bl_Rul_marked_18 {d : Nat} {B : kv_B} {Q : kv_Q} {kc ks n : Nat} {S : kv_SM} {I : kv_IM} {v0 : Int32} {v1 : Int32} {t0 : Int32} (hb : narrow .boolean (.int t0) = .int t0) (hQ : Q (some (.int t0)) n S I) : kv_V y_Rul_marked d B Q kc ks n S I 18 [(0, .int v0), (1, .int v1)] [.int t0] := by
  exact kv_end (v := some (.int t0)) hQ ⟨dd_Rul_marked_18, .boolean, rfl, hb⟩
theorem bl_Row_close_0 {d : Nat} {B : kv_B} {Q : kv_Q} {kc ks n : Nat} {S : kv_SM} {I : kv_IM} {a0 : Nat} {v1 : Int32} {r1 : Nat → Option Nat} {q2 : Nat} {m3 : Nat} {j4 : Nat} (hO1 : S a0 = kO 0 r1) (hr2 : r1 1 = some q2) (hA3 : S q2 = kI m3) (hi4 : (I a0 5) + 1 = nI j4 ∧ j4 < m3 ∧ m3 < 2 ^ 31) (hQ : Q (none) n S (kv_up (kv_up I q2 j4 v1) a0 5 (((kv_up I q2 j4 v1) a0 5) + 1))) : kv_V y_Row_close d B Q kc ks n S I 0 [(0, .ref a0), (1, .int v1)] [] := by
  refine kv_aload_n dd_Row_close_0 rfl ?_
  refine kv_getR fl_Row_15 dd_Row_close_1 hO1 hr2 ?_
  refine kv_aload_n dd_Row_close_4 rfl ?_
  refine kv_getI fl_Row_30 dd_Row_close_5 hO1 ?_
  refine kv_iconst (v := 1) dd_Row_close_8 (by decide) ?_
  refine kv_iadd dd_Row_close_9 ?_
  refine kv_iload_n dd_Row_close_10 rfl ?_
  refine kv_iast j4 dd_Row_close_11 hA3 hi4.1 hi4.2.1 hi4.2.2 ?_
  refine kv_aload_n dd_Row_close_12 rfl ?_
  refine kv_dup dd_Row_close_13 rfl ?_
  refine kv_getI fl_Row_30 dd_Row_close_14 hO1 ?_
  refine kv_iconst (v := 1) dd_Row_close_17 (by decide) ?_
  refine kv_iadd dd_Row_close_18 ?_
  refine kv_putI fp_Row_30 (fun h => by cases h) dd_Row_close_19 hO1 rfl rfl ?_
  exact kv_end (v := none) hQ ⟨dd_Row_close_22, rfl⟩
theorem bl_Row_bytesOf_0 {d : Nat} {B : kv_B} {Q : kv_Q} {kc ks n : Nat} {S : kv_SM} {I : kv_IM} {a0 : Nat} {v1 : Int32} {r1 : Nat → Option Nat} {q2 : Nat} {m3 : Nat} {j4 : Nat} {j5 : Nat} (hO1 : S a0 = kO 0 r1) (hr2 : r1 1 = some q2) (hA3 : S q2 = kI m3) (hi4 : v1 + 1 = nI j4 ∧ j4 < m3 ∧ m3 < 2 ^ 31) (hi5 : v1 = nI j5 ∧ j5 < m3 ∧ m3 < 2 ^ 31) (hQ : Q (some (.int ((I q2 j4) - (I q2 j5)))) n S I) : kv_V y_Row_bytesOf d B Q kc ks n S I 0 [(0, .ref a0), (1, .int v1)] [] := by
  refine kv_aload_n dd_Row_bytesOf_0 rfl ?_
  refine kv_getR fl_Row_15 dd_Row_bytesOf_1 hO1 hr2 ?_
  refine kv_iload_n dd_Row_bytesOf_4 rfl ?_
  refine kv_iconst (v := 1) dd_Row_bytesOf_5 (by decide) ?_
  refine kv_iadd dd_Row_bytesOf_6 ?_
  refine kv_iald j4 dd_Row_bytesOf_7 hA3 hi4.1 hi4.2.1 hi4.2.2 ?_
  refine kv_aload_n dd_Row_bytesOf_8 rfl ?_
  refine kv_getR fl_Row_15 dd_Row_bytesOf_9 hO1 hr2 ?_
  refine kv_iload_n dd_Row_bytesOf_12 rfl ?_
  refine kv_iald j5 dd_Row_bytesOf_13 hA3 hi5.1 hi5.2.1 hi5.2.2 ?_
  refine kv_isub dd_Row_bytesOf_14 ?_
  exact kv_end (v := some (.int ((I q2 j4) - (I q2 j5)))) hQ ⟨dd_Row_bytesOf_15, .int, rfl, rfl⟩
theorem bl_Row_mixedSum_0 {d : Nat} {B : kv_B} {Q : kv_Q} {kc ks n : Nat} {S : kv_SM} {I : kv_IM} {a0 : Nat} {v1 : Int32} {r1 : Nat → Option Nat} {q2 : Nat} {m3 : Nat} {j4 : Nat} (hO1 : S a0 = kO 0 r1) (hr2 : r1 1 = some q2) (hA3 : S q2 = kI m3) (hi4 : v1 = nI j4 ∧ j4 < m3 ∧ m3 < 2 ^ 31) (K : kv_V y_Row_mixedSum d B Q kc ks n S I 10 [(0, .ref a0), (1, .int v1), (2, .int ((-2128831035))), (3, .int (I q2 j4))] []) : kv_V y_Row_mixedSum d B Q kc ks n S I 0 [(0, .ref a0), (1, .int v1)] [] := by
  refine kv_ldc wk_Row_34 dd_Row_mixedSum_0 ?_
  refine kv_istore_n (L' := [(2, .int ((-2128831035))), (0, .ref a0), (1, .int v1)]) dd_Row_mixedSum_2 (by decide) rfl ?_
  refine kv_aload_n dd_Row_mixedSum_3 rfl ?_
  refine kv_getR fl_Row_15 dd_Row_mixedSum_4 hO1 hr2 ?_
  refine kv_iload_n dd_Row_mixedSum_7 rfl ?_
  refine kv_iald j4 dd_Row_mixedSum_8 hA3 hi4.1 hi4.2.1 hi4.2.2 ?_
  refine kv_istore_n (L' := [(3, .int (I q2 j4)), (2, .int ((-2128831035))), (0, .ref a0), (1, .int v1)]) dd_Row_mixedSum_9 (by decide) rfl ?_
  exact kv_loc [2, 3, 1, 0] rfl K
theorem bl_Row_mixedSum_10 {d : Nat} {B : kv_B} {Q : kv_Q} {kc ks n : Nat} {S : kv_SM} {I : kv_IM} {a0 : Nat} {v1 : Int32} {v2 : Int32} {v3 : Int32} {r1 : Nat → Option Nat} {q2 : Nat} {m3 : Nat} {j4 : Nat} (hO1 : S a0 = kO 0 r1) (hr2 : r1 1 = some q2) (hA3 : S q2 = kI m3) (hi4 : v1 + 1 = nI j4 ∧ j4 < m3 ∧ m3 < 2 ^ 31) (Kt : (I q2 j4) ≤ v3 → kv_V y_Row_mixedSum d B Q kc ks n S I 40 [(0, .ref a0), (1, .int v1), (2, .int v2), (3, .int v3)] []) (Kf : ¬ (I q2 j4) ≤ v3 → kv_V y_Row_mixedSum d B Q kc ks n S I 22 [(0, .ref a0), (1, .int v1), (2, .int v2), (3, .int v3)] []) : kv_V y_Row_mixedSum d B Q kc ks n S I 10 [(0, .ref a0), (1, .int v1), (2, .int v2), (3, .int v3)] [] := by
  refine kv_iload_n dd_Row_mixedSum_10 rfl ?_
  refine kv_aload_n dd_Row_mixedSum_11 rfl ?_
  refine kv_getR fl_Row_15 dd_Row_mixedSum_12 hO1 hr2 ?_
  refine kv_iload_n dd_Row_mixedSum_15 rfl ?_
  refine kv_iconst (v := 1) dd_Row_mixedSum_16 (by decide) ?_
  refine kv_iadd dd_Row_mixedSum_17 ?_
  refine kv_iald j4 dd_Row_mixedSum_18 hA3 hi4.1 hi4.2.1 hi4.2.2 ?_
  exact kv_icmp_ge 40 dd_Row_mixedSum_19 (by decide) (fun h => kv_loc [0, 1, 2, 3] rfl (Kt h)) (fun h => kv_loc [0, 1, 2, 3] rfl (Kf h))
theorem bl_Row_mixedSum_22 {d : Nat} {B : kv_B} {Q : kv_Q} {kc ks n : Nat} {S : kv_SM} {I : kv_IM} {a0 : Nat} {v1 : Int32} {v2 : Int32} {v3 : Int32} {r1 : Nat → Option Nat} {q2 : Nat} {m3 : Nat} {j4 : Nat} (hO1 : S a0 = kO 0 r1) (hr2 : r1 0 = some q2) (hA3 : S q2 = kI m3) (hi4 : v3 = nI j4 ∧ j4 < m3 ∧ m3 < 2 ^ 31) (K : kv_V y_Row_mixedSum d B Q kc ks n S I 10 [(0, .ref a0), (1, .int v1), (2, .int ((v2 ^^^ (I q2 j4)) * 16777619)), (3, .int (v3 + 1))] []) : kv_V y_Row_mixedSum d B Q kc ks n S I 22 [(0, .ref a0), (1, .int v1), (2, .int v2), (3, .int v3)] [] := by
  refine kv_iload_n dd_Row_mixedSum_22 rfl ?_
  refine kv_aload_n dd_Row_mixedSum_23 rfl ?_
  refine kv_getR fl_Row_9 dd_Row_mixedSum_24 hO1 hr2 ?_
  refine kv_iload_n dd_Row_mixedSum_27 rfl ?_
  refine kv_iald j4 dd_Row_mixedSum_28 hA3 hi4.1 hi4.2.1 hi4.2.2 ?_
  refine kv_ixor dd_Row_mixedSum_29 ?_
  refine kv_ldc wk_Row_35 dd_Row_mixedSum_30 ?_
  refine kv_imul dd_Row_mixedSum_32 ?_
  refine kv_istore_n (L' := [(2, .int ((v2 ^^^ (I q2 j4)) * 16777619)), (0, .ref a0), (1, .int v1), (3, .int v3)]) dd_Row_mixedSum_33 (by decide) rfl ?_
  refine kv_iinc (v := v3 + 1) (L' := [(3, .int (v3 + 1)), (2, .int ((v2 ^^^ (I q2 j4)) * 16777619)), (0, .ref a0), (1, .int v1)]) dd_Row_mixedSum_34 rfl rfl (by decide) rfl ?_
  refine kv_goto 10 dd_Row_mixedSum_37 (by decide) ?_
  exact kv_loc [2, 3, 1, 0] rfl K
theorem bl_Row_mixedSum_40 {d : Nat} {B : kv_B} {Q : kv_Q} {kc ks n : Nat} {S : kv_SM} {I : kv_IM} {a0 : Nat} {v1 : Int32} {v2 : Int32} {v3 : Int32} (hQ : Q (some (.int v2)) n S I) : kv_V y_Row_mixedSum d B Q kc ks n S I 40 [(0, .ref a0), (1, .int v1), (2, .int v2), (3, .int v3)] [] := by
  refine kv_iload_n dd_Row_mixedSum_40 rfl ?_
  exact kv_end (v := some (.int v2)) hQ ⟨dd_Row_mixedSum_41, .int, rfl, rfl⟩
theorem bl_Row_doubleSum_0 {d : Nat} {B : kv_B} {Q : kv_Q} {kc ks n : Nat} {S : kv_SM} {I : kv_IM} {a0 : Nat} {v1 : Int32} {r1 : Nat → Option Nat} {q2 : Nat} {m3 : Nat} {j4 : Nat} (hO1 : S a0 = kO 0 r1) (hr2 : r1 1 = some q2) (hA3 : S q2 = kI m3) (hi4 : v1 = nI j4 ∧ j4 < m3 ∧ m3 < 2 ^ 31) (K : kv_V y_Row_doubleSum d B Q kc ks n S I 12 [(0, .ref a0), (1, .int v1), (2, .int 1), (3, .int 0), (4, .int (I q2 j4))] []) : kv_V y_Row_doubleSum d B Q kc ks n S I 0 [(0, .ref a0), (1, .int v1)] [] := by
  refine kv_iconst (v := 1) dd_Row_doubleSum_0 (by decide) ?_
  refine kv_istore_n (L' := [(2, .int 1), (0, .ref a0), (1, .int v1)]) dd_Row_doubleSum_1 (by decide) rfl ?_
  refine kv_iconst (v := 0) dd_Row_doubleSum_2 (by decide) ?_
  refine kv_istore_n (L' := [(3, .int 0), (2, .int 1), (0, .ref a0), (1, .int v1)]) dd_Row_doubleSum_3 (by decide) rfl ?_
  refine kv_aload_n dd_Row_doubleSum_4 rfl ?_
  refine kv_getR fl_Row_15 dd_Row_doubleSum_5 hO1 hr2 ?_
  refine kv_iload_n dd_Row_doubleSum_8 rfl ?_
  refine kv_iald j4 dd_Row_doubleSum_9 hA3 hi4.1 hi4.2.1 hi4.2.2 ?_
  refine kv_istore (L' := [(4, .int (I q2 j4)), (3, .int 0), (2, .int 1), (0, .ref a0), (1, .int v1)]) dd_Row_doubleSum_10 (by decide) rfl ?_
  exact kv_loc [3, 4, 2, 1, 0] rfl K
theorem bl_Row_doubleSum_12 {d : Nat} {B : kv_B} {Q : kv_Q} {kc ks n : Nat} {S : kv_SM} {I : kv_IM} {a0 : Nat} {v1 : Int32} {v2 : Int32} {v3 : Int32} {v4 : Int32} {r1 : Nat → Option Nat} {q2 : Nat} {m3 : Nat} {j4 : Nat} (hO1 : S a0 = kO 0 r1) (hr2 : r1 1 = some q2) (hA3 : S q2 = kI m3) (hi4 : v1 + 1 = nI j4 ∧ j4 < m3 ∧ m3 < 2 ^ 31) (Kt : (I q2 j4) ≤ v4 → kv_V y_Row_doubleSum d B Q kc ks n S I 51 [(0, .ref a0), (1, .int v1), (2, .int v2), (3, .int v3), (4, .int v4)] []) (Kf : ¬ (I q2 j4) ≤ v4 → kv_V y_Row_doubleSum d B Q kc ks n S I 25 [(0, .ref a0), (1, .int v1), (2, .int v2), (3, .int v3), (4, .int v4)] []) : kv_V y_Row_doubleSum d B Q kc ks n S I 12 [(0, .ref a0), (1, .int v1), (2, .int v2), (3, .int v3), (4, .int v4)] [] := by
  refine kv_iload dd_Row_doubleSum_12 rfl ?_
  refine kv_aload_n dd_Row_doubleSum_14 rfl ?_
  refine kv_getR fl_Row_15 dd_Row_doubleSum_15 hO1 hr2 ?_
  refine kv_iload_n dd_Row_doubleSum_18 rfl ?_
  refine kv_iconst (v := 1) dd_Row_doubleSum_19 (by decide) ?_
  refine kv_iadd dd_Row_doubleSum_20 ?_
  refine kv_iald j4 dd_Row_doubleSum_21 hA3 hi4.1 hi4.2.1 hi4.2.2 ?_
  exact kv_icmp_ge 51 dd_Row_doubleSum_22 (by decide) (fun h => kv_loc [0, 1, 2, 3, 4] rfl (Kt h)) (fun h => kv_loc [0, 1, 2, 3, 4] rfl (Kf h))
theorem bl_Row_doubleSum_25 {d : Nat} {B : kv_B} {Q : kv_Q} {kc ks n : Nat} {S : kv_SM} {I : kv_IM} {a0 : Nat} {v1 : Int32} {v2 : Int32} {v3 : Int32} {v4 : Int32} {r1 : Nat → Option Nat} {q2 : Nat} {m3 : Nat} {j4 : Nat} (hO1 : S a0 = kO 0 r1) (hr2 : r1 0 = some q2) (hA3 : S q2 = kI m3) (hi4 : v4 = nI j4 ∧ j4 < m3 ∧ m3 < 2 ^ 31) (K : kv_V y_Row_doubleSum d B Q kc ks n S I 12 [(0, .ref a0), (1, .int v1), (2, .int ((v2 + (I q2 j4)) - (v2 + (I q2 j4)) / 65521 * 65521)), (3, .int ((v3 + ((v2 + (I q2 j4)) - (v2 + (I q2 j4)) / 65521 * 65521)) - (v3 + ((v2 + (I q2 j4)) - (v2 + (I q2 j4)) / 65521 * 65521)) / 65521 * 65521)), (4, .int (v4 + 1))] []) : kv_V y_Row_doubleSum d B Q kc ks n S I 25 [(0, .ref a0), (1, .int v1), (2, .int v2), (3, .int v3), (4, .int v4)] [] := by
  refine kv_iload_n dd_Row_doubleSum_25 rfl ?_
  refine kv_aload_n dd_Row_doubleSum_26 rfl ?_
  refine kv_getR fl_Row_9 dd_Row_doubleSum_27 hO1 hr2 ?_
  refine kv_iload dd_Row_doubleSum_30 rfl ?_
  refine kv_iald j4 dd_Row_doubleSum_32 hA3 hi4.1 hi4.2.1 hi4.2.2 ?_
  refine kv_iadd dd_Row_doubleSum_33 ?_
  refine kv_ldc wk_Row_36 dd_Row_doubleSum_34 ?_
  refine kv_irem dd_Row_doubleSum_36 (by decide) ?_
  refine kv_istore_n (L' := [(2, .int ((v2 + (I q2 j4)) - (v2 + (I q2 j4)) / 65521 * 65521)), (0, .ref a0), (1, .int v1), (3, .int v3), (4, .int v4)]) dd_Row_doubleSum_37 (by decide) rfl ?_
  refine kv_iload_n dd_Row_doubleSum_38 rfl ?_
  refine kv_iload_n dd_Row_doubleSum_39 rfl ?_
  refine kv_iadd dd_Row_doubleSum_40 ?_
  refine kv_ldc wk_Row_36 dd_Row_doubleSum_41 ?_
  refine kv_irem dd_Row_doubleSum_43 (by decide) ?_
  refine kv_istore_n (L' := [(3, .int ((v3 + ((v2 + (I q2 j4)) - (v2 + (I q2 j4)) / 65521 * 65521)) - (v3 + ((v2 + (I q2 j4)) - (v2 + (I q2 j4)) / 65521 * 65521)) / 65521 * 65521)), (2, .int ((v2 + (I q2 j4)) - (v2 + (I q2 j4)) / 65521 * 65521)), (0, .ref a0), (1, .int v1), (4, .int v4)]) dd_Row_doubleSum_44 (by decide) rfl ?_
  refine kv_iinc (v := v4 + 1) (L' := [(4, .int (v4 + 1)), (3, .int ((v3 + ((v2 + (I q2 j4)) - (v2 + (I q2 j4)) / 65521 * 65521)) - (v3 + ((v2 + (I q2 j4)) - (v2 + (I q2 j4)) / 65521 * 65521)) / 65521 * 65521)), (2, .int ((v2 + (I q2 j4)) - (v2 + (I q2 j4)) / 65521 * 65521)), (0, .ref a0), (1, .int v1)]) dd_Row_doubleSum_45 rfl rfl (by decide) rfl ?_
  refine kv_goto 12 dd_Row_doubleSum_48 (by decide) ?_
  exact kv_loc [3, 4, 2, 1, 0] rfl K
theorem bl_Row_doubleSum_51 {d : Nat} {B : kv_B} {Q : kv_Q} {kc ks n : Nat} {S : kv_SM} {I : kv_IM} {a0 : Nat} {v1 : Int32} {v2 : Int32} {v3 : Int32} {v4 : Int32} (hQ : Q (some (.long ((65536 * (Int32.toInt64 v3)) + (Int32.toInt64 v2)))) n S I) : kv_V y_Row_doubleSum d B Q kc ks n S I 51 [(0, .ref a0), (1, .int v1), (2, .int v2), (3, .int v3), (4, .int v4)] [] := by
  refine kv_ldc2 wk_Row_37 dd_Row_doubleSum_51 ?_
  refine kv_iload_n dd_Row_doubleSum_54 rfl ?_
  refine kv_i2l dd_Row_doubleSum_55 ?_
  refine kv_lmul dd_Row_doubleSum_56 ?_
  refine kv_iload_n dd_Row_doubleSum_57 rfl ?_
  refine kv_i2l dd_Row_doubleSum_58 ?_
  refine kv_ladd dd_Row_doubleSum_59 ?_
  exact kv_end (v := some (.long ((65536 * (Int32.toInt64 v3)) + (Int32.toInt64 v2)))) hQ ⟨dd_Row_doubleSum_60, rfl⟩
theorem bl_Row_startOfBlockWith_0 {d : Nat} {B : kv_B} {Q : kv_Q} {kc ks n : Nat} {S : kv_SM} {I : kv_IM} {a0 : Nat} {v1 : Int32} (K : kv_V y_Row_startOfBlockWith d B Q kc ks n S I 2 [(0, .ref a0), (1, .int v1), (2, .int 0)] []) : kv_V y_Row_startOfBlockWith d B Q kc ks n S I 0 [(0, .ref a0), (1, .int v1)] [] := by
  refine kv_iconst (v := 0) dd_Row_startOfBlockWith_0 (by decide) ?_
  refine kv_istore_n (L' := [(2, .int 0), (0, .ref a0), (1, .int v1)]) dd_Row_startOfBlockWith_1 (by decide) rfl ?_
  exact kv_loc [1, 2, 0] rfl K
theorem bl_Row_startOfBlockWith_2 {d : Nat} {B : kv_B} {Q : kv_Q} {kc ks n : Nat} {S : kv_SM} {I : kv_IM} {a0 : Nat} {v1 : Int32} {v2 : Int32} {r1 : Nat → Option Nat} (hO1 : S a0 = kO 0 r1) (Kt : (I a0 5) ≤ (v2 + 1) → kv_V y_Row_startOfBlockWith d B Q kc ks n S I 30 [(0, .ref a0), (1, .int v1), (2, .int v2)] []) (Kf : ¬ (I a0 5) ≤ (v2 + 1) → kv_V y_Row_startOfBlockWith d B Q kc ks n S I 12 [(0, .ref a0), (1, .int v1), (2, .int v2)] []) : kv_V y_Row_startOfBlockWith d B Q kc ks n S I 2 [(0, .ref a0), (1, .int v1), (2, .int v2)] [] := by
  refine kv_iload_n dd_Row_startOfBlockWith_2 rfl ?_
  refine kv_iconst (v := 1) dd_Row_startOfBlockWith_3 (by decide) ?_
  refine kv_iadd dd_Row_startOfBlockWith_4 ?_
  refine kv_aload_n dd_Row_startOfBlockWith_5 rfl ?_
  refine kv_getI fl_Row_30 dd_Row_startOfBlockWith_6 hO1 ?_
  exact kv_icmp_ge 30 dd_Row_startOfBlockWith_9 (by decide) (fun h => kv_loc [0, 1, 2] rfl (Kt h)) (fun h => kv_loc [0, 1, 2] rfl (Kf h))
theorem bl_Row_startOfBlockWith_12 {d : Nat} {B : kv_B} {Q : kv_Q} {kc ks n : Nat} {S : kv_SM} {I : kv_IM} {a0 : Nat} {v1 : Int32} {v2 : Int32} {r1 : Nat → Option Nat} {q2 : Nat} {m3 : Nat} {j4 : Nat} (hO1 : S a0 = kO 0 r1) (hr2 : r1 1 = some q2) (hA3 : S q2 = kI m3) (hi4 : v2 + 1 = nI j4 ∧ j4 < m3 ∧ m3 < 2 ^ 31) (Kt : v1 < (I q2 j4) → kv_V y_Row_startOfBlockWith d B Q kc ks n S I 30 [(0, .ref a0), (1, .int v1), (2, .int v2)] []) (Kf : ¬ v1 < (I q2 j4) → kv_V y_Row_startOfBlockWith d B Q kc ks n S I 24 [(0, .ref a0), (1, .int v1), (2, .int v2)] []) : kv_V y_Row_startOfBlockWith d B Q kc ks n S I 12 [(0, .ref a0), (1, .int v1), (2, .int v2)] [] := by
  refine kv_aload_n dd_Row_startOfBlockWith_12 rfl ?_
  refine kv_getR fl_Row_15 dd_Row_startOfBlockWith_13 hO1 hr2 ?_
  refine kv_iload_n dd_Row_startOfBlockWith_16 rfl ?_
  refine kv_iconst (v := 1) dd_Row_startOfBlockWith_17 (by decide) ?_
  refine kv_iadd dd_Row_startOfBlockWith_18 ?_
  refine kv_iald j4 dd_Row_startOfBlockWith_19 hA3 hi4.1 hi4.2.1 hi4.2.2 ?_
  refine kv_iload_n dd_Row_startOfBlockWith_20 rfl ?_
  exact kv_icmp_gt 30 dd_Row_startOfBlockWith_21 (by decide) (fun h => kv_loc [0, 1, 2] rfl (Kt h)) (fun h => kv_loc [0, 1, 2] rfl (Kf h))
theorem bl_Row_startOfBlockWith_24 {d : Nat} {B : kv_B} {Q : kv_Q} {kc ks n : Nat} {S : kv_SM} {I : kv_IM} {a0 : Nat} {v1 : Int32} {v2 : Int32} (K : kv_V y_Row_startOfBlockWith d B Q kc ks n S I 2 [(0, .ref a0), (1, .int v1), (2, .int (v2 + 1))] []) : kv_V y_Row_startOfBlockWith d B Q kc ks n S I 24 [(0, .ref a0), (1, .int v1), (2, .int v2)] [] := by
  refine kv_iinc (v := v2 + 1) (L' := [(2, .int (v2 + 1)), (0, .ref a0), (1, .int v1)]) dd_Row_startOfBlockWith_24 rfl rfl (by decide) rfl ?_
  refine kv_goto 2 dd_Row_startOfBlockWith_27 (by decide) ?_
  exact kv_loc [1, 2, 0] rfl K
theorem bl_Row_startOfBlockWith_30 {d : Nat} {B : kv_B} {Q : kv_Q} {kc ks n : Nat} {S : kv_SM} {I : kv_IM} {a0 : Nat} {v1 : Int32} {v2 : Int32} {r1 : Nat → Option Nat} {q2 : Nat} {m3 : Nat} {j4 : Nat} (hO1 : S a0 = kO 0 r1) (hr2 : r1 1 = some q2) (hA3 : S q2 = kI m3) (hi4 : v2 = nI j4 ∧ j4 < m3 ∧ m3 < 2 ^ 31) (hQ : Q (some (.int (I q2 j4))) n S I) : kv_V y_Row_startOfBlockWith d B Q kc ks n S I 30 [(0, .ref a0), (1, .int v1), (2, .int v2)] [] := by
  refine kv_aload_n dd_Row_startOfBlockWith_30 rfl ?_
  refine kv_getR fl_Row_15 dd_Row_startOfBlockWith_31 hO1 hr2 ?_
  refine kv_iload_n dd_Row_startOfBlockWith_34 rfl ?_
  refine kv_iald j4 dd_Row_startOfBlockWith_35 hA3 hi4.1 hi4.2.1 hi4.2.2 ?_
  exact kv_end (v := some (.int (I q2 j4))) hQ ⟨dd_Row_startOfBlockWith_36, .int, rfl, rfl⟩
theorem bl_Rul_numberAt_0 {d : Nat} {B : kv_B} {Q : kv_Q} {kc ks n : Nat} {S : kv_SM} {I : kv_IM} {a0 : Nat} {a1 : Nat} {v2 : Int32} {v3 : Int32} (K : kv_V y_Rul_numberAt d B Q kc ks n S I 6 [(0, .ref a0), (1, .ref a1), (2, .int v2), (3, .int v3), (4, .int 0), (5, .int v2)] []) : kv_V y_Rul_numberAt d B Q kc ks n S I 0 [(0, .ref a0), (1, .ref a1), (2, .int v2), (3, .int v3)] [] := by
  refine kv_iconst (v := 0) dd_Rul_numberAt_0 (by decide) ?_
  refine kv_istore (L' := [(4, .int 0), (0, .ref a0), (1, .ref a1), (2, .int v2), (3, .int v3)]) dd_Rul_numberAt_1 (by decide) rfl ?_
  refine kv_iload_n dd_Rul_numberAt_3 rfl ?_
  refine kv_istore (L' := [(5, .int v2), (4, .int 0), (0, .ref a0), (1, .ref a1), (2, .int v2), (3, .int v3)]) dd_Rul_numberAt_4 (by decide) rfl ?_
  exact kv_loc [2, 3, 4, 5, 1, 0] rfl K
theorem bl_Rul_numberAt_6 {d : Nat} {B : kv_B} {Q : kv_Q} {kc ks n : Nat} {S : kv_SM} {I : kv_IM} {a0 : Nat} {a1 : Nat} {v2 : Int32} {v3 : Int32} {v4 : Int32} {v5 : Int32} (Kt : v3 < v5 → kv_V y_Rul_numberAt d B Q kc ks n S I 30 [(0, .ref a0), (1, .ref a1), (2, .int v2), (3, .int v3), (4, .int v4), (5, .int v5)] []) (Kf : ¬ v3 < v5 → kv_V y_Rul_numberAt d B Q kc ks n S I 12 [(0, .ref a0), (1, .ref a1), (2, .int v2), (3, .int v3), (4, .int v4), (5, .int v5)] []) : kv_V y_Rul_numberAt d B Q kc ks n S I 6 [(0, .ref a0), (1, .ref a1), (2, .int v2), (3, .int v3), (4, .int v4), (5, .int v5)] [] := by
  refine kv_iload dd_Rul_numberAt_6 rfl ?_
  refine kv_iload_n dd_Rul_numberAt_8 rfl ?_
  exact kv_icmp_gt 30 dd_Rul_numberAt_9 (by decide) (fun h => kv_loc [0, 1, 2, 3, 4, 5] rfl (Kt h)) (fun h => kv_loc [0, 1, 2, 3, 4, 5] rfl (Kf h))
theorem bl_Rul_numberAt_12 {d : Nat} {B : kv_B} {Q : kv_Q} {kc ks n : Nat} {S : kv_SM} {I : kv_IM} {a0 : Nat} {a1 : Nat} {v2 : Int32} {v3 : Int32} {v4 : Int32} {v5 : Int32} {dc kcc ksc : Nat} {Qy : kv_Q} {r1 : Nat → Option Nat} (hO1 : S a0 = kO 1 r1) (hM : kv_T y_Rul_numberWith dc kcc ksc B [.ref a0, .int v4, .ref a1, .int v2, .int v5] n S I Qy) (hdp : dc + 1 ≤ d) (hkk : kcc ≤ kc) (hkl : ksc ≤ ks) (K : ∀ v n' S' I', Qy v n' S' I' → kv_V y_Rul_numberAt d B Q (kc - kcc) (ks - ksc) n' S' I' 22 [(0, .ref a0), (1, .ref a1), (2, .int v2), (3, .int v3), (4, .int v4), (5, .int v5)] (v.toList ++ [])) : kv_V y_Rul_numberAt d B Q kc ks n S I 12 [(0, .ref a0), (1, .ref a1), (2, .int v2), (3, .int v3), (4, .int v4), (5, .int v5)] [] := by
  refine kv_aload_n dd_Rul_numberAt_12 rfl ?_
  refine kv_iload dd_Rul_numberAt_13 rfl ?_
  refine kv_aload_n dd_Rul_numberAt_15 rfl ?_
  refine kv_iload_n dd_Rul_numberAt_16 rfl ?_
  refine kv_iload dd_Rul_numberAt_17 rfl ?_
  exact kv_callV [.int v4, .ref a1, .int v2, .int v5] [] ls_Rul_44 hO1 hM dd_Rul_numberAt_19 rfl hdp (Nat.le_of_ble_eq_true rfl) hkk hkl (fun v n' S' I' hv => kv_loc [0, 1, 2, 3, 4, 5] rfl (K v n' S' I' hv))
theorem bl_Rul_numberAt_22 {d : Nat} {B : kv_B} {Q : kv_Q} {kc ks n : Nat} {S : kv_SM} {I : kv_IM} {a0 : Nat} {a1 : Nat} {v2 : Int32} {v3 : Int32} {v4 : Int32} {v5 : Int32} {t0 : Int32} (K : kv_V y_Rul_numberAt d B Q kc ks n S I 6 [(0, .ref a0), (1, .ref a1), (2, .int v2), (3, .int v3), (4, .int t0), (5, .int (v5 + 1))] []) : kv_V y_Rul_numberAt d B Q kc ks n S I 22 [(0, .ref a0), (1, .ref a1), (2, .int v2), (3, .int v3), (4, .int v4), (5, .int v5)] [.int t0] := by
  refine kv_istore (L' := [(4, .int t0), (0, .ref a0), (1, .ref a1), (2, .int v2), (3, .int v3), (5, .int v5)]) dd_Rul_numberAt_22 (by decide) rfl ?_
  refine kv_iinc (v := v5 + 1) (L' := [(5, .int (v5 + 1)), (4, .int t0), (0, .ref a0), (1, .ref a1), (2, .int v2), (3, .int v3)]) dd_Rul_numberAt_24 rfl rfl (by decide) rfl ?_
  refine kv_goto 6 dd_Rul_numberAt_27 (by decide) ?_
  exact kv_loc [2, 3, 4, 5, 1, 0] rfl K
theorem bl_Rul_numberAt_30 {d : Nat} {B : kv_B} {Q : kv_Q} {kc ks n : Nat} {S : kv_SM} {I : kv_IM} {a0 : Nat} {a1 : Nat} {v2 : Int32} {v3 : Int32} {v4 : Int32} {v5 : Int32} (hQ : Q (some (.int v4)) n S I) : kv_V y_Rul_numberAt d B Q kc ks n S I 30 [(0, .ref a0), (1, .ref a1), (2, .int v2), (3, .int v3), (4, .int v4), (5, .int v5)] [] := by
  refine kv_iload dd_Rul_numberAt_30 rfl ?_
  exact kv_end (v := some (.int v4)) hQ ⟨dd_Rul_numberAt_32, .int, rfl, rfl⟩
theorem bl_Txt_indexBy_0 {d : Nat} {B : kv_B} {Q : kv_Q} {kc ks n : Nat} {S : kv_SM} {I : kv_IM} {a0 : Nat} {a1 : Nat} {dc kcc ksc : Nat} {Qy : kv_Q} {r1 : Nat → Option Nat} (hO1 : S a0 = kO 4 r1) (hM : kv_T y_Txt_cutBy dc kcc ksc B [.ref a0, .ref a1] n S I Qy) (hdp : dc + 1 ≤ d) (hkk : kcc ≤ kc) (hkl : ksc ≤ ks) (K : ∀ v n' S' I', Qy v n' S' I' → kv_V y_Txt_indexBy d B Q (kc - kcc) (ks - ksc) n' S' I' 5 [(0, .ref a0), (1, .ref a1)] (v.toList ++ [])) : kv_V y_Txt_indexBy d B Q kc ks n S I 0 [(0, .ref a0), (1, .ref a1)] [] := by
  refine kv_aload_n dd_Txt_indexBy_0 rfl ?_
  refine kv_aload_n dd_Txt_indexBy_1 rfl ?_
  exact kv_callV [.ref a1] [] ls_Txt_52 hO1 hM dd_Txt_indexBy_2 rfl hdp (Nat.le_of_ble_eq_true rfl) hkk hkl (fun v n' S' I' hv => kv_loc [0, 1] rfl (K v n' S' I' hv))
theorem bl_Txt_indexBy_5 {d : Nat} {B : kv_B} {Q : kv_Q} {kc ks n : Nat} {S : kv_SM} {I : kv_IM} {a0 : Nat} {a1 : Nat} {r1 : Nat → Option Nat} (hO1 : S a0 = kO 4 r1) (Kt : ¬ (I a0 3) = 0 → kv_V y_Txt_indexBy d B Q kc ks n S I 24 [(0, .ref a0), (1, .ref a1)] []) (Kf : (I a0 3) = 0 → kv_V y_Txt_indexBy d B Q kc ks n S I 12 [(0, .ref a0), (1, .ref a1)] []) : kv_V y_Txt_indexBy d B Q kc ks n S I 5 [(0, .ref a0), (1, .ref a1)] [] := by
  refine kv_aload_n dd_Txt_indexBy_5 rfl ?_
  refine kv_getI fl_Txt_24 dd_Txt_indexBy_6 hO1 ?_
  exact kv_if_ne 24 dd_Txt_indexBy_9 (by decide) (fun h => kv_loc [0, 1] rfl (Kt h)) (fun h => kv_loc [0, 1] rfl (Kf h))
theorem bl_Txt_indexBy_12 {d : Nat} {B : kv_B} {Q : kv_Q} {kc ks n : Nat} {S : kv_SM} {I : kv_IM} {a0 : Nat} {a1 : Nat} {r1 : Nat → Option Nat} {q2 : Nat} {dc kcc ksc : Nat} {Qy : kv_Q} {r3 : Nat → Option Nat} (hO1 : S a0 = kO 4 r1) (hr2 : r1 0 = some q2) (hO3 : S q2 = kO 0 r3) (hM : kv_T y_Row_index dc kcc ksc B [.ref q2] n S I Qy) (hdp : dc + 1 ≤ d) (hkk : kcc ≤ kc) (hkl : ksc ≤ ks) (K : ∀ v n' S' I', Qy v n' S' I' → kv_V y_Txt_indexBy d B Q (kc - kcc) (ks - ksc) n' S' I' 19 [(0, .ref a0), (1, .ref a1)] (v.toList ++ [])) : kv_V y_Txt_indexBy d B Q kc ks n S I 12 [(0, .ref a0), (1, .ref a1)] [] := by
  refine kv_aload_n dd_Txt_indexBy_12 rfl ?_
  refine kv_getR fl_Txt_14 dd_Txt_indexBy_13 hO1 hr2 ?_
  exact kv_callV [] [] ls_Txt_56 hO3 hM dd_Txt_indexBy_16 rfl hdp (Nat.le_of_ble_eq_true rfl) hkk hkl (fun v n' S' I' hv => kv_loc [0, 1] rfl (K v n' S' I' hv))
theorem bl_Txt_indexBy_19 {d : Nat} {B : kv_B} {Q : kv_Q} {kc ks n : Nat} {S : kv_SM} {I : kv_IM} {a0 : Nat} {a1 : Nat} {r1 : Nat → Option Nat} (hO1 : S a0 = kO 4 r1) (K : kv_V y_Txt_indexBy d B Q kc ks n S (kv_up I a0 3 1) 24 [(0, .ref a0), (1, .ref a1)] []) : kv_V y_Txt_indexBy d B Q kc ks n S I 19 [(0, .ref a0), (1, .ref a1)] [] := by
  refine kv_aload_n dd_Txt_indexBy_19 rfl ?_
  refine kv_iconst (v := 1) dd_Txt_indexBy_20 (by decide) ?_
  refine kv_putI fp_Txt_24 (fun h => by cases h) dd_Txt_indexBy_21 hO1 rfl rfl ?_
  exact kv_loc [0, 1] rfl K
theorem bl_Txt_indexBy_24 {d : Nat} {B : kv_B} {Q : kv_Q} {kc ks n : Nat} {S : kv_SM} {I : kv_IM} {a0 : Nat} {a1 : Nat} (hQ : Q (none) n S I) : kv_V y_Txt_indexBy d B Q kc ks n S I 24 [(0, .ref a0), (1, .ref a1)] [] := by
  exact kv_end (v := none) hQ ⟨dd_Txt_indexBy_24, rfl⟩
theorem bl_Row_index_0 {d : Nat} {B : kv_B} {Q : kv_Q} {kc ks n : Nat} {S : kv_SM} {I : kv_IM} {a0 : Nat} {dc kcc ksc : Nat} {Qy : kv_Q} {r1 : Nat → Option Nat} (hO1 : S a0 = kO 0 r1) (hM : kv_T y_Row_unchain dc kcc ksc B [.ref a0] n S I Qy) (hdp : dc + 1 ≤ d) (hkk : kcc ≤ kc) (hkl : ksc ≤ ks) (K : ∀ v n' S' I', Qy v n' S' I' → kv_V y_Row_index d B Q (kc - kcc) (ks - ksc) n' S' I' 4 [(0, .ref a0)] (v.toList ++ [])) : kv_V y_Row_index d B Q kc ks n S I 0 [(0, .ref a0)] [] := by
  refine kv_aload_n dd_Row_index_0 rfl ?_
  exact kv_callV [] [] ls_Row_27 hO1 hM dd_Row_index_1 rfl hdp (Nat.le_of_ble_eq_true rfl) hkk hkl (fun v n' S' I' hv => kv_loc [0] rfl (K v n' S' I' hv))
theorem bl_Row_index_4 {d : Nat} {B : kv_B} {Q : kv_Q} {kc ks n : Nat} {S : kv_SM} {I : kv_IM} {a0 : Nat} (K : kv_V y_Row_index d B Q kc ks n S I 6 [(0, .ref a0), (1, .int 0)] []) : kv_V y_Row_index d B Q kc ks n S I 4 [(0, .ref a0)] [] := by
  refine kv_iconst (v := 0) dd_Row_index_4 (by decide) ?_
  refine kv_istore_n (L' := [(1, .int 0), (0, .ref a0)]) dd_Row_index_5 (by decide) rfl ?_
  exact kv_loc [1, 0] rfl K
theorem bl_Row_index_6 {d : Nat} {B : kv_B} {Q : kv_Q} {kc ks n : Nat} {S : kv_SM} {I : kv_IM} {a0 : Nat} {v1 : Int32} {r1 : Nat → Option Nat} (hO1 : S a0 = kO 0 r1) (Kt : (I a0 5) ≤ v1 → kv_V y_Row_index d B Q kc ks n S I 46 [(0, .ref a0), (1, .int v1)] []) (Kf : ¬ (I a0 5) ≤ v1 → kv_V y_Row_index d B Q kc ks n S I 14 [(0, .ref a0), (1, .int v1)] []) : kv_V y_Row_index d B Q kc ks n S I 6 [(0, .ref a0), (1, .int v1)] [] := by
  refine kv_iload_n dd_Row_index_6 rfl ?_
  refine kv_aload_n dd_Row_index_7 rfl ?_
  refine kv_getI fl_Row_30 dd_Row_index_8 hO1 ?_
  exact kv_icmp_ge 46 dd_Row_index_11 (by decide) (fun h => kv_loc [0, 1] rfl (Kt h)) (fun h => kv_loc [0, 1] rfl (Kf h))
theorem bl_Row_index_14 {d : Nat} {B : kv_B} {Q : kv_Q} {kc ks n : Nat} {S : kv_SM} {I : kv_IM} {a0 : Nat} {v1 : Int32} {r1 : Nat → Option Nat} {q2 : Nat} {dc kcc ksc : Nat} {Qy : kv_Q} (hO1 : S a0 = kO 0 r1) (hr2 : r1 2 = some q2) (hM : kv_T y_Row_mixedSum dc kcc ksc B [.ref a0, .int v1] n S I Qy) (hdp : dc + 1 ≤ d) (hkk : kcc ≤ kc) (hkl : ksc ≤ ks) (K : ∀ v n' S' I', Qy v n' S' I' → kv_V y_Row_index d B Q (kc - kcc) (ks - ksc) n' S' I' 24 [(0, .ref a0), (1, .int v1)] (v.toList ++ [.int v1, .ref q2])) : kv_V y_Row_index d B Q kc ks n S I 14 [(0, .ref a0), (1, .int v1)] [] := by
  refine kv_aload_n dd_Row_index_14 rfl ?_
  refine kv_getR fl_Row_18 dd_Row_index_15 hO1 hr2 ?_
  refine kv_iload_n dd_Row_index_18 rfl ?_
  refine kv_aload_n dd_Row_index_19 rfl ?_
  refine kv_iload_n dd_Row_index_20 rfl ?_
  exact kv_callV [.int v1] [.int v1, .ref q2] ls_Row_45 hO1 hM dd_Row_index_21 rfl hdp (Nat.le_of_ble_eq_true rfl) hkk hkl (fun v n' S' I' hv => kv_loc [0, 1] rfl (K v n' S' I' hv))
theorem bl_Row_index_24 {d : Nat} {B : kv_B} {Q : kv_Q} {kc ks n : Nat} {S : kv_SM} {I : kv_IM} {a0 : Nat} {v1 : Int32} {t0 : Int32} {t1 : Int32} {t2 : Nat} {m1 : Nat} {j2 : Nat} {dc kcc ksc : Nat} {Qy : kv_Q} {r3 : Nat → Option Nat} (hA1 : S t2 = kI m1) (hi2 : t1 = nI j2 ∧ j2 < m1 ∧ m1 < 2 ^ 31) (hO3 : S a0 = kO 0 r3) (hM : kv_T y_Row_find dc kcc ksc B [.ref a0, .ref a0, .int v1] n S (kv_up I t2 j2 t0) Qy) (hdp : dc + 1 ≤ d) (hkk : kcc ≤ kc) (hkl : ksc ≤ ks) (K : ∀ v n' S' I', Qy v n' S' I' → kv_V y_Row_index d B Q (kc - kcc) (ks - ksc) n' S' I' 31 [(0, .ref a0), (1, .int v1)] (v.toList ++ [])) : kv_V y_Row_index d B Q kc ks n S I 24 [(0, .ref a0), (1, .int v1)] [.int t0, .int t1, .ref t2] := by
  refine kv_iast j2 dd_Row_index_24 hA1 hi2.1 hi2.2.1 hi2.2.2 ?_
  refine kv_aload_n dd_Row_index_25 rfl ?_
  refine kv_aload_n dd_Row_index_26 rfl ?_
  refine kv_iload_n dd_Row_index_27 rfl ?_
  exact kv_callV [.ref a0, .int v1] [] ls_Row_49 hO3 hM dd_Row_index_28 rfl hdp (Nat.le_of_ble_eq_true rfl) hkk hkl (fun v n' S' I' hv => kv_loc [0, 1] rfl (K v n' S' I' hv))
theorem bl_Row_index_31 {d : Nat} {B : kv_B} {Q : kv_Q} {kc ks n : Nat} {S : kv_SM} {I : kv_IM} {a0 : Nat} {v1 : Int32} {t0 : Int32} (Kt : ¬ t0 = ((-1)) → kv_V y_Row_index d B Q kc ks n S I 40 [(0, .ref a0), (1, .int v1)] []) (Kf : t0 = ((-1)) → kv_V y_Row_index d B Q kc ks n S I 35 [(0, .ref a0), (1, .int v1)] []) : kv_V y_Row_index d B Q kc ks n S I 31 [(0, .ref a0), (1, .int v1)] [.int t0] := by
  refine kv_iconst (v := (-1)) dd_Row_index_31 (by decide) ?_
  exact kv_icmp_ne 40 dd_Row_index_32 (by decide) (fun h => kv_loc [0, 1] rfl (Kt h)) (fun h => kv_loc [0, 1] rfl (Kf h))
theorem bl_Row_index_35 {d : Nat} {B : kv_B} {Q : kv_Q} {kc ks n : Nat} {S : kv_SM} {I : kv_IM} {a0 : Nat} {v1 : Int32} {dc kcc ksc : Nat} {Qy : kv_Q} {r1 : Nat → Option Nat} (hO1 : S a0 = kO 0 r1) (hM : kv_T y_Row_chain dc kcc ksc B [.ref a0, .int v1] n S I Qy) (hdp : dc + 1 ≤ d) (hkk : kcc ≤ kc) (hkl : ksc ≤ ks) (K : ∀ v n' S' I', Qy v n' S' I' → kv_V y_Row_index d B Q (kc - kcc) (ks - ksc) n' S' I' 40 [(0, .ref a0), (1, .int v1)] (v.toList ++ [])) : kv_V y_Row_index d B Q kc ks n S I 35 [(0, .ref a0), (1, .int v1)] [] := by
  refine kv_aload_n dd_Row_index_35 rfl ?_
  refine kv_iload_n dd_Row_index_36 rfl ?_
  exact kv_callV [.int v1] [] ls_Row_53 hO1 hM dd_Row_index_37 rfl hdp (Nat.le_of_ble_eq_true rfl) hkk hkl (fun v n' S' I' hv => kv_loc [0, 1] rfl (K v n' S' I' hv))
theorem bl_Row_index_40 {d : Nat} {B : kv_B} {Q : kv_Q} {kc ks n : Nat} {S : kv_SM} {I : kv_IM} {a0 : Nat} {v1 : Int32} (K : kv_V y_Row_index d B Q kc ks n S I 6 [(0, .ref a0), (1, .int (v1 + 1))] []) : kv_V y_Row_index d B Q kc ks n S I 40 [(0, .ref a0), (1, .int v1)] [] := by
  refine kv_iinc (v := v1 + 1) (L' := [(1, .int (v1 + 1)), (0, .ref a0)]) dd_Row_index_40 rfl rfl (by decide) rfl ?_
  refine kv_goto 6 dd_Row_index_43 (by decide) ?_
  exact kv_loc [1, 0] rfl K
theorem bl_Row_index_46 {d : Nat} {B : kv_B} {Q : kv_Q} {kc ks n : Nat} {S : kv_SM} {I : kv_IM} {a0 : Nat} {v1 : Int32} (hQ : Q (none) n S I) : kv_V y_Row_index d B Q kc ks n S I 46 [(0, .ref a0), (1, .int v1)] [] := by
  exact kv_end (v := none) hQ ⟨dd_Row_index_46, rfl⟩
theorem bl_Row_find_0 {d : Nat} {B : kv_B} {Q : kv_Q} {kc ks n : Nat} {S : kv_SM} {I : kv_IM} {a0 : Nat} {a1 : Nat} {v2 : Int32} {r1 : Nat → Option Nat} {q2 : Nat} {r3 : Nat → Option Nat} {q4 : Nat} {m5 : Nat} {j6 : Nat} {m7 : Nat} {j8 : Nat} (hO1 : S a0 = kO 0 r1) (hr2 : r1 3 = some q2) (hO3 : S a1 = kO 0 r3) (hr4 : r3 2 = some q4) (hA5 : S q4 = kI m5) (hi6 : v2 = nI j6 ∧ j6 < m5 ∧ m5 < 2 ^ 31) (hA7 : S q2 = kI m7) (hi8 : (I q4 j6) &&& 255 = nI j8 ∧ j8 < m7 ∧ m7 < 2 ^ 31) (K : kv_V y_Row_find d B Q kc ks n S I 19 [(0, .ref a0), (1, .ref a1), (2, .int v2), (3, .int (I q2 j8)), (4, .int 0)] []) : kv_V y_Row_find d B Q kc ks n S I 0 [(0, .ref a0), (1, .ref a1), (2, .int v2)] [] := by
  refine kv_aload_n dd_Row_find_0 rfl ?_
  refine kv_getR fl_Row_24 dd_Row_find_1 hO1 hr2 ?_
  refine kv_aload_n dd_Row_find_4 rfl ?_
  refine kv_getR fl_Row_18 dd_Row_find_5 hO3 hr4 ?_
  refine kv_iload_n dd_Row_find_8 rfl ?_
  refine kv_iald j6 dd_Row_find_9 hA5 hi6.1 hi6.2.1 hi6.2.2 ?_
  refine kv_sipush (v := 255) dd_Row_find_10 (by decide) ?_
  refine kv_iand dd_Row_find_13 ?_
  refine kv_iald j8 dd_Row_find_14 hA7 hi8.1 hi8.2.1 hi8.2.2 ?_
  refine kv_istore_n (L' := [(3, .int (I q2 j8)), (0, .ref a0), (1, .ref a1), (2, .int v2)]) dd_Row_find_15 (by decide) rfl ?_
  refine kv_iconst (v := 0) dd_Row_find_16 (by decide) ?_
  refine kv_istore (L' := [(4, .int 0), (3, .int (I q2 j8)), (0, .ref a0), (1, .ref a1), (2, .int v2)]) dd_Row_find_17 (by decide) rfl ?_
  exact kv_loc [2, 3, 4, 1, 0] rfl K
theorem bl_Row_find_19 {d : Nat} {B : kv_B} {Q : kv_Q} {kc ks n : Nat} {S : kv_SM} {I : kv_IM} {a0 : Nat} {a1 : Nat} {v2 : Int32} {v3 : Int32} {v4 : Int32} {r1 : Nat → Option Nat} (hO1 : S a0 = kO 0 r1) (Kt : (I a0 5) ≤ v4 → kv_V y_Row_find d B Q kc ks n S I 58 [(0, .ref a0), (1, .ref a1), (2, .int v2), (3, .int v3), (4, .int v4)] []) (Kf : ¬ (I a0 5) ≤ v4 → kv_V y_Row_find d B Q kc ks n S I 28 [(0, .ref a0), (1, .ref a1), (2, .int v2), (3, .int v3), (4, .int v4)] []) : kv_V y_Row_find d B Q kc ks n S I 19 [(0, .ref a0), (1, .ref a1), (2, .int v2), (3, .int v3), (4, .int v4)] [] := by
  refine kv_iload dd_Row_find_19 rfl ?_
  refine kv_aload_n dd_Row_find_21 rfl ?_
  refine kv_getI fl_Row_30 dd_Row_find_22 hO1 ?_
  exact kv_icmp_ge 58 dd_Row_find_25 (by decide) (fun h => kv_loc [0, 1, 2, 3, 4] rfl (Kt h)) (fun h => kv_loc [0, 1, 2, 3, 4] rfl (Kf h))
theorem bl_Row_find_28 {d : Nat} {B : kv_B} {Q : kv_Q} {kc ks n : Nat} {S : kv_SM} {I : kv_IM} {a0 : Nat} {a1 : Nat} {v2 : Int32} {v3 : Int32} {v4 : Int32} (Kt : v3 = ((-1)) → kv_V y_Row_find d B Q kc ks n S I 58 [(0, .ref a0), (1, .ref a1), (2, .int v2), (3, .int v3), (4, .int v4)] []) (Kf : ¬ v3 = ((-1)) → kv_V y_Row_find d B Q kc ks n S I 33 [(0, .ref a0), (1, .ref a1), (2, .int v2), (3, .int v3), (4, .int v4)] []) : kv_V y_Row_find d B Q kc ks n S I 28 [(0, .ref a0), (1, .ref a1), (2, .int v2), (3, .int v3), (4, .int v4)] [] := by
  refine kv_iload_n dd_Row_find_28 rfl ?_
  refine kv_iconst (v := (-1)) dd_Row_find_29 (by decide) ?_
  exact kv_icmp_eq 58 dd_Row_find_30 (by decide) (fun h => kv_loc [0, 1, 2, 3, 4] rfl (Kt h)) (fun h => kv_loc [0, 1, 2, 3, 4] rfl (Kf h))
theorem bl_Row_find_33 {d : Nat} {B : kv_B} {Q : kv_Q} {kc ks n : Nat} {S : kv_SM} {I : kv_IM} {a0 : Nat} {a1 : Nat} {v2 : Int32} {v3 : Int32} {v4 : Int32} {dc kcc ksc : Nat} {Qy : kv_Q} {r1 : Nat → Option Nat} (hO1 : S a0 = kO 0 r1) (hM : kv_T y_Row_isLike dc kcc ksc B [.ref a0, .int v3, .ref a1, .int v2] n S I Qy) (hdp : dc + 1 ≤ d) (hkk : kcc ≤ kc) (hkl : ksc ≤ ks) (K : ∀ v n' S' I', Qy v n' S' I' → kv_V y_Row_find d B Q (kc - kcc) (ks - ksc) n' S' I' 40 [(0, .ref a0), (1, .ref a1), (2, .int v2), (3, .int v3), (4, .int v4)] (v.toList ++ [])) : kv_V y_Row_find d B Q kc ks n S I 33 [(0, .ref a0), (1, .ref a1), (2, .int v2), (3, .int v3), (4, .int v4)] [] := by
  refine kv_aload_n dd_Row_find_33 rfl ?_
  refine kv_iload_n dd_Row_find_34 rfl ?_
  refine kv_aload_n dd_Row_find_35 rfl ?_
  refine kv_iload_n dd_Row_find_36 rfl ?_
  exact kv_callV [.int v3, .ref a1, .int v2] [] ls_Row_57 hO1 hM dd_Row_find_37 rfl hdp (Nat.le_of_ble_eq_true rfl) hkk hkl (fun v n' S' I' hv => kv_loc [0, 1, 2, 3, 4] rfl (K v n' S' I' hv))
theorem bl_Row_find_40 {d : Nat} {B : kv_B} {Q : kv_Q} {kc ks n : Nat} {S : kv_SM} {I : kv_IM} {a0 : Nat} {a1 : Nat} {v2 : Int32} {v3 : Int32} {v4 : Int32} {t0 : Int32} (Kt : t0 = 0 → kv_V y_Row_find d B Q kc ks n S I 45 [(0, .ref a0), (1, .ref a1), (2, .int v2), (3, .int v3), (4, .int v4)] []) (Kf : ¬ t0 = 0 → kv_V y_Row_find d B Q kc ks n S I 43 [(0, .ref a0), (1, .ref a1), (2, .int v2), (3, .int v3), (4, .int v4)] []) : kv_V y_Row_find d B Q kc ks n S I 40 [(0, .ref a0), (1, .ref a1), (2, .int v2), (3, .int v3), (4, .int v4)] [.int t0] := by
  exact kv_if_eq 45 dd_Row_find_40 (by decide) (fun h => kv_loc [0, 1, 2, 3, 4] rfl (Kt h)) (fun h => kv_loc [0, 1, 2, 3, 4] rfl (Kf h))
theorem bl_Row_find_43 {d : Nat} {B : kv_B} {Q : kv_Q} {kc ks n : Nat} {S : kv_SM} {I : kv_IM} {a0 : Nat} {a1 : Nat} {v2 : Int32} {v3 : Int32} {v4 : Int32} (hQ : Q (some (.int v3)) n S I) : kv_V y_Row_find d B Q kc ks n S I 43 [(0, .ref a0), (1, .ref a1), (2, .int v2), (3, .int v3), (4, .int v4)] [] := by
  refine kv_iload_n dd_Row_find_43 rfl ?_
  exact kv_end (v := some (.int v3)) hQ ⟨dd_Row_find_44, .int, rfl, rfl⟩
theorem bl_Row_find_45 {d : Nat} {B : kv_B} {Q : kv_Q} {kc ks n : Nat} {S : kv_SM} {I : kv_IM} {a0 : Nat} {a1 : Nat} {v2 : Int32} {v3 : Int32} {v4 : Int32} {r1 : Nat → Option Nat} {q2 : Nat} {m3 : Nat} {j4 : Nat} (hO1 : S a0 = kO 0 r1) (hr2 : r1 4 = some q2) (hA3 : S q2 = kI m3) (hi4 : v3 = nI j4 ∧ j4 < m3 ∧ m3 < 2 ^ 31) (K : kv_V y_Row_find d B Q kc ks n S I 19 [(0, .ref a0), (1, .ref a1), (2, .int v2), (3, .int (I q2 j4)), (4, .int (v4 + 1))] []) : kv_V y_Row_find d B Q kc ks n S I 45 [(0, .ref a0), (1, .ref a1), (2, .int v2), (3, .int v3), (4, .int v4)] [] := by
  refine kv_aload_n dd_Row_find_45 rfl ?_
  refine kv_getR fl_Row_21 dd_Row_find_46 hO1 hr2 ?_
  refine kv_iload_n dd_Row_find_49 rfl ?_
  refine kv_iald j4 dd_Row_find_50 hA3 hi4.1 hi4.2.1 hi4.2.2 ?_
  refine kv_istore_n (L' := [(3, .int (I q2 j4)), (0, .ref a0), (1, .ref a1), (2, .int v2), (4, .int v4)]) dd_Row_find_51 (by decide) rfl ?_
  refine kv_iinc (v := v4 + 1) (L' := [(4, .int (v4 + 1)), (3, .int (I q2 j4)), (0, .ref a0), (1, .ref a1), (2, .int v2)]) dd_Row_find_52 rfl rfl (by decide) rfl ?_
  refine kv_goto 19 dd_Row_find_55 (by decide) ?_
  exact kv_loc [2, 3, 4, 1, 0] rfl K
theorem bl_Row_find_58 {d : Nat} {B : kv_B} {Q : kv_Q} {kc ks n : Nat} {S : kv_SM} {I : kv_IM} {a0 : Nat} {a1 : Nat} {v2 : Int32} {v3 : Int32} {v4 : Int32} (hQ : Q (some (.int ((-1)))) n S I) : kv_V y_Row_find d B Q kc ks n S I 58 [(0, .ref a0), (1, .ref a1), (2, .int v2), (3, .int v3), (4, .int v4)] [] := by
  refine kv_iconst (v := (-1)) dd_Row_find_58 (by decide) ?_
  exact kv_end (v := some (.int ((-1)))) hQ ⟨dd_Row_find_59, .int, rfl, rfl⟩
theorem bl_Row_isLike_0 {d : Nat} {B : kv_B} {Q : kv_Q} {kc ks n : Nat} {S : kv_SM} {I : kv_IM} {a0 : Nat} {v1 : Int32} {a2 : Nat} {v3 : Int32} {r1 : Nat → Option Nat} {q2 : Nat} {m3 : Nat} {j4 : Nat} {r5 : Nat → Option Nat} {q6 : Nat} {m7 : Nat} {j8 : Nat} (hO1 : S a0 = kO 0 r1) (hr2 : r1 2 = some q2) (hA3 : S q2 = kI m3) (hi4 : v1 = nI j4 ∧ j4 < m3 ∧ m3 < 2 ^ 31) (hO5 : S a2 = kO 0 r5) (hr6 : r5 2 = some q6) (hA7 : S q6 = kI m7) (hi8 : v3 = nI j8 ∧ j8 < m7 ∧ m7 < 2 ^ 31) (Kt : ¬ (I q2 j4) = (I q6 j8) → kv_V y_Row_isLike d B Q kc ks n S I 28 [(0, .ref a0), (1, .int v1), (2, .ref a2), (3, .int v3)] []) (Kf : (I q2 j4) = (I q6 j8) → kv_V y_Row_isLike d B Q kc ks n S I 15 [(0, .ref a0), (1, .int v1), (2, .ref a2), (3, .int v3)] []) : kv_V y_Row_isLike d B Q kc ks n S I 0 [(0, .ref a0), (1, .int v1), (2, .ref a2), (3, .int v3)] [] := by
  refine kv_aload_n dd_Row_isLike_0 rfl ?_
  refine kv_getR fl_Row_18 dd_Row_isLike_1 hO1 hr2 ?_
  refine kv_iload_n dd_Row_isLike_4 rfl ?_
  refine kv_iald j4 dd_Row_isLike_5 hA3 hi4.1 hi4.2.1 hi4.2.2 ?_
  refine kv_aload_n dd_Row_isLike_6 rfl ?_
  refine kv_getR fl_Row_18 dd_Row_isLike_7 hO5 hr6 ?_
  refine kv_iload_n dd_Row_isLike_10 rfl ?_
  refine kv_iald j8 dd_Row_isLike_11 hA7 hi8.1 hi8.2.1 hi8.2.2 ?_
  exact kv_icmp_ne 28 dd_Row_isLike_12 (by decide) (fun h => kv_loc [0, 1, 2, 3] rfl (Kt h)) (fun h => kv_loc [0, 1, 2, 3] rfl (Kf h))
theorem bl_Row_isLike_15 {d : Nat} {B : kv_B} {Q : kv_Q} {kc ks n : Nat} {S : kv_SM} {I : kv_IM} {a0 : Nat} {v1 : Int32} {a2 : Nat} {v3 : Int32} {dc kcc ksc : Nat} {Qy : kv_Q} {r1 : Nat → Option Nat} (hO1 : S a0 = kO 0 r1) (hM : kv_T y_Row_bytesOf dc kcc ksc B [.ref a0, .int v1] n S I Qy) (hdp : dc + 1 ≤ d) (hkk : kcc ≤ kc) (hkl : ksc ≤ ks) (K : ∀ v n' S' I', Qy v n' S' I' → kv_V y_Row_isLike d B Q (kc - kcc) (ks - ksc) n' S' I' 20 [(0, .ref a0), (1, .int v1), (2, .ref a2), (3, .int v3)] (v.toList ++ [])) : kv_V y_Row_isLike d B Q kc ks n S I 15 [(0, .ref a0), (1, .int v1), (2, .ref a2), (3, .int v3)] [] := by
  refine kv_aload_n dd_Row_isLike_15 rfl ?_
  refine kv_iload_n dd_Row_isLike_16 rfl ?_
  exact kv_callV [.int v1] [] ls_Row_61 hO1 hM dd_Row_isLike_17 rfl hdp (Nat.le_of_ble_eq_true rfl) hkk hkl (fun v n' S' I' hv => kv_loc [0, 1, 2, 3] rfl (K v n' S' I' hv))
theorem bl_Row_isLike_20 {d : Nat} {B : kv_B} {Q : kv_Q} {kc ks n : Nat} {S : kv_SM} {I : kv_IM} {a0 : Nat} {v1 : Int32} {a2 : Nat} {v3 : Int32} {t0 : Int32} {dc kcc ksc : Nat} {Qy : kv_Q} {r1 : Nat → Option Nat} (hO1 : S a2 = kO 0 r1) (hM : kv_T y_Row_bytesOf dc kcc ksc B [.ref a2, .int v3] n S I Qy) (hdp : dc + 1 ≤ d) (hkk : kcc ≤ kc) (hkl : ksc ≤ ks) (K : ∀ v n' S' I', Qy v n' S' I' → kv_V y_Row_isLike d B Q (kc - kcc) (ks - ksc) n' S' I' 25 [(0, .ref a0), (1, .int v1), (2, .ref a2), (3, .int v3)] (v.toList ++ [.int t0])) : kv_V y_Row_isLike d B Q kc ks n S I 20 [(0, .ref a0), (1, .int v1), (2, .ref a2), (3, .int v3)] [.int t0] := by
  refine kv_aload_n dd_Row_isLike_20 rfl ?_
  refine kv_iload_n dd_Row_isLike_21 rfl ?_
  exact kv_callV [.int v3] [.int t0] ls_Row_61 hO1 hM dd_Row_isLike_22 rfl hdp (Nat.le_of_ble_eq_true rfl) hkk hkl (fun v n' S' I' hv => kv_loc [0, 1, 2, 3] rfl (K v n' S' I' hv))
theorem bl_Row_isLike_25 {d : Nat} {B : kv_B} {Q : kv_Q} {kc ks n : Nat} {S : kv_SM} {I : kv_IM} {a0 : Nat} {v1 : Int32} {a2 : Nat} {v3 : Int32} {t0 : Int32} {t1 : Int32} (Kt : t1 = t0 → kv_V y_Row_isLike d B Q kc ks n S I 30 [(0, .ref a0), (1, .int v1), (2, .ref a2), (3, .int v3)] []) (Kf : ¬ t1 = t0 → kv_V y_Row_isLike d B Q kc ks n S I 28 [(0, .ref a0), (1, .int v1), (2, .ref a2), (3, .int v3)] []) : kv_V y_Row_isLike d B Q kc ks n S I 25 [(0, .ref a0), (1, .int v1), (2, .ref a2), (3, .int v3)] [.int t0, .int t1] := by
  exact kv_icmp_eq 30 dd_Row_isLike_25 (by decide) (fun h => kv_loc [0, 1, 2, 3] rfl (Kt h)) (fun h => kv_loc [0, 1, 2, 3] rfl (Kf h))
theorem bl_Row_isLike_28 {d : Nat} {B : kv_B} {Q : kv_Q} {kc ks n : Nat} {S : kv_SM} {I : kv_IM} {a0 : Nat} {v1 : Int32} {a2 : Nat} {v3 : Int32} (hQ : Q (some (.int 0)) n S I) : kv_V y_Row_isLike d B Q kc ks n S I 28 [(0, .ref a0), (1, .int v1), (2, .ref a2), (3, .int v3)] [] := by
  refine kv_iconst (v := 0) dd_Row_isLike_28 (by decide) ?_
  exact kv_end (v := some (.int 0)) hQ ⟨dd_Row_isLike_29, .boolean, rfl, rfl⟩
theorem bl_Row_isLike_30 {d : Nat} {B : kv_B} {Q : kv_Q} {kc ks n : Nat} {S : kv_SM} {I : kv_IM} {a0 : Nat} {v1 : Int32} {a2 : Nat} {v3 : Int32} {r1 : Nat → Option Nat} {q2 : Nat} {m3 : Nat} {j4 : Nat} {r5 : Nat → Option Nat} {q6 : Nat} {m7 : Nat} {j8 : Nat} {dc kcc ksc : Nat} {Qy : kv_Q} (hO1 : S a0 = kO 0 r1) (hr2 : r1 1 = some q2) (hA3 : S q2 = kI m3) (hi4 : v1 = nI j4 ∧ j4 < m3 ∧ m3 < 2 ^ 31) (hO5 : S a2 = kO 0 r5) (hr6 : r5 1 = some q6) (hA7 : S q6 = kI m7) (hi8 : v3 = nI j8 ∧ j8 < m7 ∧ m7 < 2 ^ 31) (hM : kv_T y_Row_bytesOf dc kcc ksc B [.ref a0, .int v1] n S I Qy) (hdp : dc + 1 ≤ d) (hkk : kcc ≤ kc) (hkl : ksc ≤ ks) (K : ∀ v n' S' I', Qy v n' S' I' → kv_V y_Row_isLike d B Q (kc - kcc) (ks - ksc) n' S' I' 51 [(0, .ref a0), (1, .int v1), (2, .ref a2), (3, .int v3), (4, .int (I q2 j4)), (5, .int (I q6 j8))] (v.toList ++ [])) : kv_V y_Row_isLike d B Q kc ks n S I 30 [(0, .ref a0), (1, .int v1), (2, .ref a2), (3, .int v3)] [] := by
  refine kv_aload_n dd_Row_isLike_30 rfl ?_
  refine kv_getR fl_Row_15 dd_Row_isLike_31 hO1 hr2 ?_
  refine kv_iload_n dd_Row_isLike_34 rfl ?_
  refine kv_iald j4 dd_Row_isLike_35 hA3 hi4.1 hi4.2.1 hi4.2.2 ?_
  refine kv_istore (L' := [(4, .int (I q2 j4)), (0, .ref a0), (1, .int v1), (2, .ref a2), (3, .int v3)]) dd_Row_isLike_36 (by decide) rfl ?_
  refine kv_aload_n dd_Row_isLike_38 rfl ?_
  refine kv_getR fl_Row_15 dd_Row_isLike_39 hO5 hr6 ?_
  refine kv_iload_n dd_Row_isLike_42 rfl ?_
  refine kv_iald j8 dd_Row_isLike_43 hA7 hi8.1 hi8.2.1 hi8.2.2 ?_
  refine kv_istore (L' := [(5, .int (I q6 j8)), (4, .int (I q2 j4)), (0, .ref a0), (1, .int v1), (2, .ref a2), (3, .int v3)]) dd_Row_isLike_44 (by decide) rfl ?_
  refine kv_aload_n dd_Row_isLike_46 rfl ?_
  refine kv_iload_n dd_Row_isLike_47 rfl ?_
  exact kv_callV [.int v1] [] ls_Row_61 hO1 hM dd_Row_isLike_48 rfl hdp (Nat.le_of_ble_eq_true rfl) hkk hkl (fun v n' S' I' hv => kv_loc [2, 3, 4, 5, 1, 0] rfl (K v n' S' I' hv))
theorem bl_Row_isLike_51 {d : Nat} {B : kv_B} {Q : kv_Q} {kc ks n : Nat} {S : kv_SM} {I : kv_IM} {a0 : Nat} {v1 : Int32} {a2 : Nat} {v3 : Int32} {v4 : Int32} {v5 : Int32} {t0 : Int32} (K : kv_V y_Row_isLike d B Q kc ks n S I 56 [(0, .ref a0), (1, .int v1), (2, .ref a2), (3, .int v3), (4, .int v4), (5, .int v5), (6, .int t0), (7, .int 0)] []) : kv_V y_Row_isLike d B Q kc ks n S I 51 [(0, .ref a0), (1, .int v1), (2, .ref a2), (3, .int v3), (4, .int v4), (5, .int v5)] [.int t0] := by
  refine kv_istore (L' := [(6, .int t0), (0, .ref a0), (1, .int v1), (2, .ref a2), (3, .int v3), (4, .int v4), (5, .int v5)]) dd_Row_isLike_51 (by decide) rfl ?_
  refine kv_iconst (v := 0) dd_Row_isLike_53 (by decide) ?_
  refine kv_istore (L' := [(7, .int 0), (6, .int t0), (0, .ref a0), (1, .int v1), (2, .ref a2), (3, .int v3), (4, .int v4), (5, .int v5)]) dd_Row_isLike_54 (by decide) rfl ?_
  exact kv_loc [2, 3, 4, 5, 6, 7, 1, 0] rfl K
theorem bl_Row_isLike_56 {d : Nat} {B : kv_B} {Q : kv_Q} {kc ks n : Nat} {S : kv_SM} {I : kv_IM} {a0 : Nat} {v1 : Int32} {a2 : Nat} {v3 : Int32} {v4 : Int32} {v5 : Int32} {v6 : Int32} {v7 : Int32} (Kt : v6 ≤ v7 → kv_V y_Row_isLike d B Q kc ks n S I 94 [(0, .ref a0), (1, .int v1), (2, .ref a2), (3, .int v3), (4, .int v4), (5, .int v5), (6, .int v6), (7, .int v7)] []) (Kf : ¬ v6 ≤ v7 → kv_V y_Row_isLike d B Q kc ks n S I 63 [(0, .ref a0), (1, .int v1), (2, .ref a2), (3, .int v3), (4, .int v4), (5, .int v5), (6, .int v6), (7, .int v7)] []) : kv_V y_Row_isLike d B Q kc ks n S I 56 [(0, .ref a0), (1, .int v1), (2, .ref a2), (3, .int v3), (4, .int v4), (5, .int v5), (6, .int v6), (7, .int v7)] [] := by
  refine kv_iload dd_Row_isLike_56 rfl ?_
  refine kv_iload dd_Row_isLike_58 rfl ?_
  exact kv_icmp_ge 94 dd_Row_isLike_60 (by decide) (fun h => kv_loc [0, 1, 2, 3, 4, 5, 6, 7] rfl (Kt h)) (fun h => kv_loc [0, 1, 2, 3, 4, 5, 6, 7] rfl (Kf h))
theorem bl_Row_isLike_63 {d : Nat} {B : kv_B} {Q : kv_Q} {kc ks n : Nat} {S : kv_SM} {I : kv_IM} {a0 : Nat} {v1 : Int32} {a2 : Nat} {v3 : Int32} {v4 : Int32} {v5 : Int32} {v6 : Int32} {v7 : Int32} {r1 : Nat → Option Nat} {q2 : Nat} {m3 : Nat} {j4 : Nat} {r5 : Nat → Option Nat} {q6 : Nat} {m7 : Nat} {j8 : Nat} (hO1 : S a0 = kO 0 r1) (hr2 : r1 0 = some q2) (hA3 : S q2 = kI m3) (hi4 : v4 + v7 = nI j4 ∧ j4 < m3 ∧ m3 < 2 ^ 31) (hO5 : S a2 = kO 0 r5) (hr6 : r5 0 = some q6) (hA7 : S q6 = kI m7) (hi8 : v5 + v7 = nI j8 ∧ j8 < m7 ∧ m7 < 2 ^ 31) (Kt : (I q2 j4) = (I q6 j8) → kv_V y_Row_isLike d B Q kc ks n S I 88 [(0, .ref a0), (1, .int v1), (2, .ref a2), (3, .int v3), (4, .int v4), (5, .int v5), (6, .int v6), (7, .int v7)] []) (Kf : ¬ (I q2 j4) = (I q6 j8) → kv_V y_Row_isLike d B Q kc ks n S I 86 [(0, .ref a0), (1, .int v1), (2, .ref a2), (3, .int v3), (4, .int v4), (5, .int v5), (6, .int v6), (7, .int v7)] []) : kv_V y_Row_isLike d B Q kc ks n S I 63 [(0, .ref a0), (1, .int v1), (2, .ref a2), (3, .int v3), (4, .int v4), (5, .int v5), (6, .int v6), (7, .int v7)] [] := by
  refine kv_aload_n dd_Row_isLike_63 rfl ?_
  refine kv_getR fl_Row_9 dd_Row_isLike_64 hO1 hr2 ?_
  refine kv_iload dd_Row_isLike_67 rfl ?_
  refine kv_iload dd_Row_isLike_69 rfl ?_
  refine kv_iadd dd_Row_isLike_71 ?_
  refine kv_iald j4 dd_Row_isLike_72 hA3 hi4.1 hi4.2.1 hi4.2.2 ?_
  refine kv_aload_n dd_Row_isLike_73 rfl ?_
  refine kv_getR fl_Row_9 dd_Row_isLike_74 hO5 hr6 ?_
  refine kv_iload dd_Row_isLike_77 rfl ?_
  refine kv_iload dd_Row_isLike_79 rfl ?_
  refine kv_iadd dd_Row_isLike_81 ?_
  refine kv_iald j8 dd_Row_isLike_82 hA7 hi8.1 hi8.2.1 hi8.2.2 ?_
  exact kv_icmp_eq 88 dd_Row_isLike_83 (by decide) (fun h => kv_loc [0, 1, 2, 3, 4, 5, 6, 7] rfl (Kt h)) (fun h => kv_loc [0, 1, 2, 3, 4, 5, 6, 7] rfl (Kf h))
theorem bl_Row_isLike_86 {d : Nat} {B : kv_B} {Q : kv_Q} {kc ks n : Nat} {S : kv_SM} {I : kv_IM} {a0 : Nat} {v1 : Int32} {a2 : Nat} {v3 : Int32} {v4 : Int32} {v5 : Int32} {v6 : Int32} {v7 : Int32} (hQ : Q (some (.int 0)) n S I) : kv_V y_Row_isLike d B Q kc ks n S I 86 [(0, .ref a0), (1, .int v1), (2, .ref a2), (3, .int v3), (4, .int v4), (5, .int v5), (6, .int v6), (7, .int v7)] [] := by
  refine kv_iconst (v := 0) dd_Row_isLike_86 (by decide) ?_
  exact kv_end (v := some (.int 0)) hQ ⟨dd_Row_isLike_87, .boolean, rfl, rfl⟩
theorem bl_Row_isLike_88 {d : Nat} {B : kv_B} {Q : kv_Q} {kc ks n : Nat} {S : kv_SM} {I : kv_IM} {a0 : Nat} {v1 : Int32} {a2 : Nat} {v3 : Int32} {v4 : Int32} {v5 : Int32} {v6 : Int32} {v7 : Int32} (K : kv_V y_Row_isLike d B Q kc ks n S I 56 [(0, .ref a0), (1, .int v1), (2, .ref a2), (3, .int v3), (4, .int v4), (5, .int v5), (6, .int v6), (7, .int (v7 + 1))] []) : kv_V y_Row_isLike d B Q kc ks n S I 88 [(0, .ref a0), (1, .int v1), (2, .ref a2), (3, .int v3), (4, .int v4), (5, .int v5), (6, .int v6), (7, .int v7)] [] := by
  refine kv_iinc (v := v7 + 1) (L' := [(7, .int (v7 + 1)), (0, .ref a0), (1, .int v1), (2, .ref a2), (3, .int v3), (4, .int v4), (5, .int v5), (6, .int v6)]) dd_Row_isLike_88 rfl rfl (by decide) rfl ?_
  refine kv_goto 56 dd_Row_isLike_91 (by decide) ?_
  exact kv_loc [1, 2, 3, 4, 5, 6, 7, 0] rfl K
theorem bl_Row_isLike_94 {d : Nat} {B : kv_B} {Q : kv_Q} {kc ks n : Nat} {S : kv_SM} {I : kv_IM} {a0 : Nat} {v1 : Int32} {a2 : Nat} {v3 : Int32} {v4 : Int32} {v5 : Int32} {v6 : Int32} {v7 : Int32} (hQ : Q (some (.int 1)) n S I) : kv_V y_Row_isLike d B Q kc ks n S I 94 [(0, .ref a0), (1, .int v1), (2, .ref a2), (3, .int v3), (4, .int v4), (5, .int v5), (6, .int v6), (7, .int v7)] [] := by
  refine kv_iconst (v := 1) dd_Row_isLike_94 (by decide) ?_
  exact kv_end (v := some (.int 1)) hQ ⟨dd_Row_isLike_95, .boolean, rfl, rfl⟩
theorem bl_Row_chain_0 {d : Nat} {B : kv_B} {Q : kv_Q} {kc ks n : Nat} {S : kv_SM} {I : kv_IM} {a0 : Nat} {v1 : Int32} {r1 : Nat → Option Nat} {q2 : Nat} {m3 : Nat} {j4 : Nat} {q5 : Nat} {q6 : Nat} {m7 : Nat} {j8 : Nat} {m9 : Nat} {j10 : Nat} (hO1 : S a0 = kO 0 r1) (hr2 : r1 2 = some q2) (hA3 : S q2 = kI m3) (hi4 : v1 = nI j4 ∧ j4 < m3 ∧ m3 < 2 ^ 31) (hr5 : r1 4 = some q5) (hr6 : r1 3 = some q6) (hA7 : S q6 = kI m7) (hi8 : (I q2 j4) &&& 255 = nI j8 ∧ j8 < m7 ∧ m7 < 2 ^ 31) (hA9 : S q5 = kI m9) (hi10 : v1 = nI j10 ∧ j10 < m9 ∧ m9 < 2 ^ 31) (hQ : Q (none) n S (kv_up (kv_up I q5 j10 (I q6 j8)) q6 j8 v1)) : kv_V y_Row_chain d B Q kc ks n S I 0 [(0, .ref a0), (1, .int v1)] [] := by
  refine kv_aload_n dd_Row_chain_0 rfl ?_
  refine kv_getR fl_Row_18 dd_Row_chain_1 hO1 hr2 ?_
  refine kv_iload_n dd_Row_chain_4 rfl ?_
  refine kv_iald j4 dd_Row_chain_5 hA3 hi4.1 hi4.2.1 hi4.2.2 ?_
  refine kv_sipush (v := 255) dd_Row_chain_6 (by decide) ?_
  refine kv_iand dd_Row_chain_9 ?_
  refine kv_istore_n (L' := [(2, .int ((I q2 j4) &&& 255)), (0, .ref a0), (1, .int v1)]) dd_Row_chain_10 (by decide) rfl ?_
  refine kv_aload_n dd_Row_chain_11 rfl ?_
  refine kv_getR fl_Row_21 dd_Row_chain_12 hO1 hr5 ?_
  refine kv_iload_n dd_Row_chain_15 rfl ?_
  refine kv_aload_n dd_Row_chain_16 rfl ?_
  refine kv_getR fl_Row_24 dd_Row_chain_17 hO1 hr6 ?_
  refine kv_iload_n dd_Row_chain_20 rfl ?_
  refine kv_iald j8 dd_Row_chain_21 hA7 hi8.1 hi8.2.1 hi8.2.2 ?_
  refine kv_iast j10 dd_Row_chain_22 hA9 hi10.1 hi10.2.1 hi10.2.2 ?_
  refine kv_aload_n dd_Row_chain_23 rfl ?_
  refine kv_getR fl_Row_24 dd_Row_chain_24 hO1 hr6 ?_
  refine kv_iload_n dd_Row_chain_27 rfl ?_
  refine kv_iload_n dd_Row_chain_28 rfl ?_
  refine kv_iast j8 dd_Row_chain_29 hA7 hi8.1 hi8.2.1 hi8.2.2 ?_
  exact kv_end (v := none) hQ ⟨dd_Row_chain_30, rfl⟩
theorem bl_Row_blocksIn_0 {d : Nat} {B : kv_B} {Q : kv_Q} {kc ks n : Nat} {S : kv_SM} {I : kv_IM} {a0 : Nat} {a1 : Nat} (K : kv_V y_Row_blocksIn d B Q kc ks n S I 4 [(0, .ref a0), (1, .ref a1), (2, .int 0), (3, .int 0)] []) : kv_V y_Row_blocksIn d B Q kc ks n S I 0 [(0, .ref a0), (1, .ref a1)] [] := by
  refine kv_iconst (v := 0) dd_Row_blocksIn_0 (by decide) ?_
  refine kv_istore_n (L' := [(2, .int 0), (0, .ref a0), (1, .ref a1)]) dd_Row_blocksIn_1 (by decide) rfl ?_
  refine kv_iconst (v := 0) dd_Row_blocksIn_2 (by decide) ?_
  refine kv_istore_n (L' := [(3, .int 0), (2, .int 0), (0, .ref a0), (1, .ref a1)]) dd_Row_blocksIn_3 (by decide) rfl ?_
  exact kv_loc [2, 3, 1, 0] rfl K
theorem bl_Row_blocksIn_4 {d : Nat} {B : kv_B} {Q : kv_Q} {kc ks n : Nat} {S : kv_SM} {I : kv_IM} {a0 : Nat} {a1 : Nat} {v2 : Int32} {v3 : Int32} {r1 : Nat → Option Nat} (hO1 : S a0 = kO 0 r1) (Kt : (I a0 5) ≤ v3 → kv_V y_Row_blocksIn d B Q kc ks n S I 31 [(0, .ref a0), (1, .ref a1), (2, .int v2), (3, .int v3)] []) (Kf : ¬ (I a0 5) ≤ v3 → kv_V y_Row_blocksIn d B Q kc ks n S I 12 [(0, .ref a0), (1, .ref a1), (2, .int v2), (3, .int v3)] []) : kv_V y_Row_blocksIn d B Q kc ks n S I 4 [(0, .ref a0), (1, .ref a1), (2, .int v2), (3, .int v3)] [] := by
  refine kv_iload_n dd_Row_blocksIn_4 rfl ?_
  refine kv_aload_n dd_Row_blocksIn_5 rfl ?_
  refine kv_getI fl_Row_30 dd_Row_blocksIn_6 hO1 ?_
  exact kv_icmp_ge 31 dd_Row_blocksIn_9 (by decide) (fun h => kv_loc [0, 1, 2, 3] rfl (Kt h)) (fun h => kv_loc [0, 1, 2, 3] rfl (Kf h))
theorem bl_Row_blocksIn_12 {d : Nat} {B : kv_B} {Q : kv_Q} {kc ks n : Nat} {S : kv_SM} {I : kv_IM} {a0 : Nat} {a1 : Nat} {v2 : Int32} {v3 : Int32} {dc kcc ksc : Nat} {Qy : kv_Q} {r1 : Nat → Option Nat} (hO1 : S a1 = kO 0 r1) (hM : kv_T y_Row_find dc kcc ksc B [.ref a1, .ref a0, .int v3] n S I Qy) (hdp : dc + 1 ≤ d) (hkk : kcc ≤ kc) (hkl : ksc ≤ ks) (K : ∀ v n' S' I', Qy v n' S' I' → kv_V y_Row_blocksIn d B Q (kc - kcc) (ks - ksc) n' S' I' 18 [(0, .ref a0), (1, .ref a1), (2, .int v2), (3, .int v3)] (v.toList ++ [])) : kv_V y_Row_blocksIn d B Q kc ks n S I 12 [(0, .ref a0), (1, .ref a1), (2, .int v2), (3, .int v3)] [] := by
  refine kv_aload_n dd_Row_blocksIn_12 rfl ?_
  refine kv_aload_n dd_Row_blocksIn_13 rfl ?_
  refine kv_iload_n dd_Row_blocksIn_14 rfl ?_
  exact kv_callV [.ref a0, .int v3] [] ls_Row_49 hO1 hM dd_Row_blocksIn_15 rfl hdp (Nat.le_of_ble_eq_true rfl) hkk hkl (fun v n' S' I' hv => kv_loc [0, 1, 2, 3] rfl (K v n' S' I' hv))
theorem bl_Row_blocksIn_18 {d : Nat} {B : kv_B} {Q : kv_Q} {kc ks n : Nat} {S : kv_SM} {I : kv_IM} {a0 : Nat} {a1 : Nat} {v2 : Int32} {v3 : Int32} {t0 : Int32} (Kt : t0 = ((-1)) → kv_V y_Row_blocksIn d B Q kc ks n S I 25 [(0, .ref a0), (1, .ref a1), (2, .int v2), (3, .int v3)] []) (Kf : ¬ t0 = ((-1)) → kv_V y_Row_blocksIn d B Q kc ks n S I 22 [(0, .ref a0), (1, .ref a1), (2, .int v2), (3, .int v3)] []) : kv_V y_Row_blocksIn d B Q kc ks n S I 18 [(0, .ref a0), (1, .ref a1), (2, .int v2), (3, .int v3)] [.int t0] := by
  refine kv_iconst (v := (-1)) dd_Row_blocksIn_18 (by decide) ?_
  exact kv_icmp_eq 25 dd_Row_blocksIn_19 (by decide) (fun h => kv_loc [0, 1, 2, 3] rfl (Kt h)) (fun h => kv_loc [0, 1, 2, 3] rfl (Kf h))
theorem bl_Row_blocksIn_22 {d : Nat} {B : kv_B} {Q : kv_Q} {kc ks n : Nat} {S : kv_SM} {I : kv_IM} {a0 : Nat} {a1 : Nat} {v2 : Int32} {v3 : Int32} (K : kv_V y_Row_blocksIn d B Q kc ks n S I 25 [(0, .ref a0), (1, .ref a1), (2, .int (v2 + 1)), (3, .int v3)] []) : kv_V y_Row_blocksIn d B Q kc ks n S I 22 [(0, .ref a0), (1, .ref a1), (2, .int v2), (3, .int v3)] [] := by
  refine kv_iinc (v := v2 + 1) (L' := [(2, .int (v2 + 1)), (0, .ref a0), (1, .ref a1), (3, .int v3)]) dd_Row_blocksIn_22 rfl rfl (by decide) rfl ?_
  exact kv_loc [1, 2, 0, 3] rfl K
theorem bl_Row_blocksIn_25 {d : Nat} {B : kv_B} {Q : kv_Q} {kc ks n : Nat} {S : kv_SM} {I : kv_IM} {a0 : Nat} {a1 : Nat} {v2 : Int32} {v3 : Int32} (K : kv_V y_Row_blocksIn d B Q kc ks n S I 4 [(0, .ref a0), (1, .ref a1), (2, .int v2), (3, .int (v3 + 1))] []) : kv_V y_Row_blocksIn d B Q kc ks n S I 25 [(0, .ref a0), (1, .ref a1), (2, .int v2), (3, .int v3)] [] := by
  refine kv_iinc (v := v3 + 1) (L' := [(3, .int (v3 + 1)), (0, .ref a0), (1, .ref a1), (2, .int v2)]) dd_Row_blocksIn_25 rfl rfl (by decide) rfl ?_
  refine kv_goto 4 dd_Row_blocksIn_28 (by decide) ?_
  exact kv_loc [1, 2, 3, 0] rfl K
theorem bl_Row_blocksIn_31 {d : Nat} {B : kv_B} {Q : kv_Q} {kc ks n : Nat} {S : kv_SM} {I : kv_IM} {a0 : Nat} {a1 : Nat} {v2 : Int32} {v3 : Int32} (hQ : Q (some (.int v2)) n S I) : kv_V y_Row_blocksIn d B Q kc ks n S I 31 [(0, .ref a0), (1, .ref a1), (2, .int v2), (3, .int v3)] [] := by
  refine kv_iload_n dd_Row_blocksIn_31 rfl ?_
  exact kv_end (v := some (.int v2)) hQ ⟨dd_Row_blocksIn_32, .int, rfl, rfl⟩
theorem bl_Row_bytesIn_0 {d : Nat} {B : kv_B} {Q : kv_Q} {kc ks n : Nat} {S : kv_SM} {I : kv_IM} {a0 : Nat} {a1 : Nat} (K : kv_V y_Row_bytesIn d B Q kc ks n S I 4 [(0, .ref a0), (1, .ref a1), (2, .int 0), (3, .int 0)] []) : kv_V y_Row_bytesIn d B Q kc ks n S I 0 [(0, .ref a0), (1, .ref a1)] [] := by
  refine kv_iconst (v := 0) dd_Row_bytesIn_0 (by decide) ?_
  refine kv_istore_n (L' := [(2, .int 0), (0, .ref a0), (1, .ref a1)]) dd_Row_bytesIn_1 (by decide) rfl ?_
  refine kv_iconst (v := 0) dd_Row_bytesIn_2 (by decide) ?_
  refine kv_istore_n (L' := [(3, .int 0), (2, .int 0), (0, .ref a0), (1, .ref a1)]) dd_Row_bytesIn_3 (by decide) rfl ?_
  exact kv_loc [2, 3, 1, 0] rfl K
theorem bl_Row_bytesIn_4 {d : Nat} {B : kv_B} {Q : kv_Q} {kc ks n : Nat} {S : kv_SM} {I : kv_IM} {a0 : Nat} {a1 : Nat} {v2 : Int32} {v3 : Int32} {r1 : Nat → Option Nat} (hO1 : S a0 = kO 0 r1) (Kt : (I a0 5) ≤ v3 → kv_V y_Row_bytesIn d B Q kc ks n S I 36 [(0, .ref a0), (1, .ref a1), (2, .int v2), (3, .int v3)] []) (Kf : ¬ (I a0 5) ≤ v3 → kv_V y_Row_bytesIn d B Q kc ks n S I 12 [(0, .ref a0), (1, .ref a1), (2, .int v2), (3, .int v3)] []) : kv_V y_Row_bytesIn d B Q kc ks n S I 4 [(0, .ref a0), (1, .ref a1), (2, .int v2), (3, .int v3)] [] := by
  refine kv_iload_n dd_Row_bytesIn_4 rfl ?_
  refine kv_aload_n dd_Row_bytesIn_5 rfl ?_
  refine kv_getI fl_Row_30 dd_Row_bytesIn_6 hO1 ?_
  exact kv_icmp_ge 36 dd_Row_bytesIn_9 (by decide) (fun h => kv_loc [0, 1, 2, 3] rfl (Kt h)) (fun h => kv_loc [0, 1, 2, 3] rfl (Kf h))
theorem bl_Row_bytesIn_12 {d : Nat} {B : kv_B} {Q : kv_Q} {kc ks n : Nat} {S : kv_SM} {I : kv_IM} {a0 : Nat} {a1 : Nat} {v2 : Int32} {v3 : Int32} {dc kcc ksc : Nat} {Qy : kv_Q} {r1 : Nat → Option Nat} (hO1 : S a1 = kO 0 r1) (hM : kv_T y_Row_find dc kcc ksc B [.ref a1, .ref a0, .int v3] n S I Qy) (hdp : dc + 1 ≤ d) (hkk : kcc ≤ kc) (hkl : ksc ≤ ks) (K : ∀ v n' S' I', Qy v n' S' I' → kv_V y_Row_bytesIn d B Q (kc - kcc) (ks - ksc) n' S' I' 18 [(0, .ref a0), (1, .ref a1), (2, .int v2), (3, .int v3)] (v.toList ++ [])) : kv_V y_Row_bytesIn d B Q kc ks n S I 12 [(0, .ref a0), (1, .ref a1), (2, .int v2), (3, .int v3)] [] := by
  refine kv_aload_n dd_Row_bytesIn_12 rfl ?_
  refine kv_aload_n dd_Row_bytesIn_13 rfl ?_
  refine kv_iload_n dd_Row_bytesIn_14 rfl ?_
  exact kv_callV [.ref a0, .int v3] [] ls_Row_49 hO1 hM dd_Row_bytesIn_15 rfl hdp (Nat.le_of_ble_eq_true rfl) hkk hkl (fun v n' S' I' hv => kv_loc [0, 1, 2, 3] rfl (K v n' S' I' hv))
theorem bl_Row_bytesIn_18 {d : Nat} {B : kv_B} {Q : kv_Q} {kc ks n : Nat} {S : kv_SM} {I : kv_IM} {a0 : Nat} {a1 : Nat} {v2 : Int32} {v3 : Int32} {t0 : Int32} (Kt : t0 = ((-1)) → kv_V y_Row_bytesIn d B Q kc ks n S I 30 [(0, .ref a0), (1, .ref a1), (2, .int v2), (3, .int v3)] []) (Kf : ¬ t0 = ((-1)) → kv_V y_Row_bytesIn d B Q kc ks n S I 22 [(0, .ref a0), (1, .ref a1), (2, .int v2), (3, .int v3)] []) : kv_V y_Row_bytesIn d B Q kc ks n S I 18 [(0, .ref a0), (1, .ref a1), (2, .int v2), (3, .int v3)] [.int t0] := by
  refine kv_iconst (v := (-1)) dd_Row_bytesIn_18 (by decide) ?_
  exact kv_icmp_eq 30 dd_Row_bytesIn_19 (by decide) (fun h => kv_loc [0, 1, 2, 3] rfl (Kt h)) (fun h => kv_loc [0, 1, 2, 3] rfl (Kf h))
theorem bl_Row_bytesIn_22 {d : Nat} {B : kv_B} {Q : kv_Q} {kc ks n : Nat} {S : kv_SM} {I : kv_IM} {a0 : Nat} {a1 : Nat} {v2 : Int32} {v3 : Int32} {dc kcc ksc : Nat} {Qy : kv_Q} {r1 : Nat → Option Nat} (hO1 : S a0 = kO 0 r1) (hM : kv_T y_Row_bytesOf dc kcc ksc B [.ref a0, .int v3] n S I Qy) (hdp : dc + 1 ≤ d) (hkk : kcc ≤ kc) (hkl : ksc ≤ ks) (K : ∀ v n' S' I', Qy v n' S' I' → kv_V y_Row_bytesIn d B Q (kc - kcc) (ks - ksc) n' S' I' 28 [(0, .ref a0), (1, .ref a1), (2, .int v2), (3, .int v3)] (v.toList ++ [.int v2])) : kv_V y_Row_bytesIn d B Q kc ks n S I 22 [(0, .ref a0), (1, .ref a1), (2, .int v2), (3, .int v3)] [] := by
  refine kv_iload_n dd_Row_bytesIn_22 rfl ?_
  refine kv_aload_n dd_Row_bytesIn_23 rfl ?_
  refine kv_iload_n dd_Row_bytesIn_24 rfl ?_
  exact kv_callV [.int v3] [.int v2] ls_Row_61 hO1 hM dd_Row_bytesIn_25 rfl hdp (Nat.le_of_ble_eq_true rfl) hkk hkl (fun v n' S' I' hv => kv_loc [0, 1, 2, 3] rfl (K v n' S' I' hv))
theorem bl_Row_bytesIn_28 {d : Nat} {B : kv_B} {Q : kv_Q} {kc ks n : Nat} {S : kv_SM} {I : kv_IM} {a0 : Nat} {a1 : Nat} {v2 : Int32} {v3 : Int32} {t0 : Int32} {t1 : Int32} (K : kv_V y_Row_bytesIn d B Q kc ks n S I 30 [(0, .ref a0), (1, .ref a1), (2, .int (t1 + t0)), (3, .int v3)] []) : kv_V y_Row_bytesIn d B Q kc ks n S I 28 [(0, .ref a0), (1, .ref a1), (2, .int v2), (3, .int v3)] [.int t0, .int t1] := by
  refine kv_iadd dd_Row_bytesIn_28 ?_
  refine kv_istore_n (L' := [(2, .int (t1 + t0)), (0, .ref a0), (1, .ref a1), (3, .int v3)]) dd_Row_bytesIn_29 (by decide) rfl ?_
  exact kv_loc [1, 2, 0, 3] rfl K
theorem bl_Row_bytesIn_30 {d : Nat} {B : kv_B} {Q : kv_Q} {kc ks n : Nat} {S : kv_SM} {I : kv_IM} {a0 : Nat} {a1 : Nat} {v2 : Int32} {v3 : Int32} (K : kv_V y_Row_bytesIn d B Q kc ks n S I 4 [(0, .ref a0), (1, .ref a1), (2, .int v2), (3, .int (v3 + 1))] []) : kv_V y_Row_bytesIn d B Q kc ks n S I 30 [(0, .ref a0), (1, .ref a1), (2, .int v2), (3, .int v3)] [] := by
  refine kv_iinc (v := v3 + 1) (L' := [(3, .int (v3 + 1)), (0, .ref a0), (1, .ref a1), (2, .int v2)]) dd_Row_bytesIn_30 rfl rfl (by decide) rfl ?_
  refine kv_goto 4 dd_Row_bytesIn_33 (by decide) ?_
  exact kv_loc [1, 2, 3, 0] rfl K
theorem bl_Row_bytesIn_36 {d : Nat} {B : kv_B} {Q : kv_Q} {kc ks n : Nat} {S : kv_SM} {I : kv_IM} {a0 : Nat} {a1 : Nat} {v2 : Int32} {v3 : Int32} (hQ : Q (some (.int v2)) n S I) : kv_V y_Row_bytesIn d B Q kc ks n S I 36 [(0, .ref a0), (1, .ref a1), (2, .int v2), (3, .int v3)] [] := by
  refine kv_iload_n dd_Row_bytesIn_36 rfl ?_
  exact kv_end (v := some (.int v2)) hQ ⟨dd_Row_bytesIn_37, .int, rfl, rfl⟩
theorem bl_Row_firstLike_0 {d : Nat} {B : kv_B} {Q : kv_Q} {kc ks n : Nat} {S : kv_SM} {I : kv_IM} {a0 : Nat} {a1 : Nat} {r1 : Nat → Option Nat} {r2 : Nat → Option Nat} (hd1 : 1 ≤ d) (hO1 : S a0 = kO 0 r1) (hO2 : S a1 = kO 0 r2) (K : kv_V y_Row_firstLike d B Q kc ks n S I 14 [(0, .ref a0), (1, .ref a1), (2, .int (if (I a1 5) < (I a0 5) then (I a1 5) else (I a0 5))), (3, .int 0)] []) : kv_V y_Row_firstLike d B Q kc ks n S I 0 [(0, .ref a0), (1, .ref a1)] [] := by
  refine kv_aload_n dd_Row_firstLike_0 rfl ?_
  refine kv_getI fl_Row_30 dd_Row_firstLike_1 hO1 ?_
  refine kv_aload_n dd_Row_firstLike_4 rfl ?_
  refine kv_getI fl_Row_30 dd_Row_firstLike_5 hO2 ?_
  refine kv_mmin wm_Row_64 wx_min_s wi_java_lang_Math wx_min_c dd_Row_firstLike_8 hd1 (Nat.le_of_ble_eq_true rfl) ?_
  refine kv_istore_n (L' := [(2, .int (if (I a1 5) < (I a0 5) then (I a1 5) else (I a0 5))), (0, .ref a0), (1, .ref a1)]) dd_Row_firstLike_11 (by decide) rfl ?_
  refine kv_iconst (v := 0) dd_Row_firstLike_12 (by decide) ?_
  refine kv_istore_n (L' := [(3, .int 0), (2, .int (if (I a1 5) < (I a0 5) then (I a1 5) else (I a0 5))), (0, .ref a0), (1, .ref a1)]) dd_Row_firstLike_13 (by decide) rfl ?_
  exact kv_loc [2, 3, 1, 0] rfl K
theorem bl_Row_firstLike_14 {d : Nat} {B : kv_B} {Q : kv_Q} {kc ks n : Nat} {S : kv_SM} {I : kv_IM} {a0 : Nat} {a1 : Nat} {v2 : Int32} {v3 : Int32} (Kt : v2 ≤ v3 → kv_V y_Row_firstLike d B Q kc ks n S I 37 [(0, .ref a0), (1, .ref a1), (2, .int v2), (3, .int v3)] []) (Kf : ¬ v2 ≤ v3 → kv_V y_Row_firstLike d B Q kc ks n S I 19 [(0, .ref a0), (1, .ref a1), (2, .int v2), (3, .int v3)] []) : kv_V y_Row_firstLike d B Q kc ks n S I 14 [(0, .ref a0), (1, .ref a1), (2, .int v2), (3, .int v3)] [] := by
  refine kv_iload_n dd_Row_firstLike_14 rfl ?_
  refine kv_iload_n dd_Row_firstLike_15 rfl ?_
  exact kv_icmp_ge 37 dd_Row_firstLike_16 (by decide) (fun h => kv_loc [0, 1, 2, 3] rfl (Kt h)) (fun h => kv_loc [0, 1, 2, 3] rfl (Kf h))
theorem bl_Row_firstLike_19 {d : Nat} {B : kv_B} {Q : kv_Q} {kc ks n : Nat} {S : kv_SM} {I : kv_IM} {a0 : Nat} {a1 : Nat} {v2 : Int32} {v3 : Int32} {dc kcc ksc : Nat} {Qy : kv_Q} {r1 : Nat → Option Nat} (hO1 : S a0 = kO 0 r1) (hM : kv_T y_Row_isLike dc kcc ksc B [.ref a0, .int v3, .ref a1, .int v3] n S I Qy) (hdp : dc + 1 ≤ d) (hkk : kcc ≤ kc) (hkl : ksc ≤ ks) (K : ∀ v n' S' I', Qy v n' S' I' → kv_V y_Row_firstLike d B Q (kc - kcc) (ks - ksc) n' S' I' 26 [(0, .ref a0), (1, .ref a1), (2, .int v2), (3, .int v3)] (v.toList ++ [])) : kv_V y_Row_firstLike d B Q kc ks n S I 19 [(0, .ref a0), (1, .ref a1), (2, .int v2), (3, .int v3)] [] := by
  refine kv_aload_n dd_Row_firstLike_19 rfl ?_
  refine kv_iload_n dd_Row_firstLike_20 rfl ?_
  refine kv_aload_n dd_Row_firstLike_21 rfl ?_
  refine kv_iload_n dd_Row_firstLike_22 rfl ?_
  exact kv_callV [.int v3, .ref a1, .int v3] [] ls_Row_57 hO1 hM dd_Row_firstLike_23 rfl hdp (Nat.le_of_ble_eq_true rfl) hkk hkl (fun v n' S' I' hv => kv_loc [0, 1, 2, 3] rfl (K v n' S' I' hv))
theorem bl_Row_firstLike_26 {d : Nat} {B : kv_B} {Q : kv_Q} {kc ks n : Nat} {S : kv_SM} {I : kv_IM} {a0 : Nat} {a1 : Nat} {v2 : Int32} {v3 : Int32} {t0 : Int32} (Kt : ¬ t0 = 0 → kv_V y_Row_firstLike d B Q kc ks n S I 31 [(0, .ref a0), (1, .ref a1), (2, .int v2), (3, .int v3)] []) (Kf : t0 = 0 → kv_V y_Row_firstLike d B Q kc ks n S I 29 [(0, .ref a0), (1, .ref a1), (2, .int v2), (3, .int v3)] []) : kv_V y_Row_firstLike d B Q kc ks n S I 26 [(0, .ref a0), (1, .ref a1), (2, .int v2), (3, .int v3)] [.int t0] := by
  exact kv_if_ne 31 dd_Row_firstLike_26 (by decide) (fun h => kv_loc [0, 1, 2, 3] rfl (Kt h)) (fun h => kv_loc [0, 1, 2, 3] rfl (Kf h))
theorem bl_Row_firstLike_29 {d : Nat} {B : kv_B} {Q : kv_Q} {kc ks n : Nat} {S : kv_SM} {I : kv_IM} {a0 : Nat} {a1 : Nat} {v2 : Int32} {v3 : Int32} (hQ : Q (some (.int v3)) n S I) : kv_V y_Row_firstLike d B Q kc ks n S I 29 [(0, .ref a0), (1, .ref a1), (2, .int v2), (3, .int v3)] [] := by
  refine kv_iload_n dd_Row_firstLike_29 rfl ?_
  exact kv_end (v := some (.int v3)) hQ ⟨dd_Row_firstLike_30, .int, rfl, rfl⟩
theorem bl_Row_firstLike_31 {d : Nat} {B : kv_B} {Q : kv_Q} {kc ks n : Nat} {S : kv_SM} {I : kv_IM} {a0 : Nat} {a1 : Nat} {v2 : Int32} {v3 : Int32} (K : kv_V y_Row_firstLike d B Q kc ks n S I 14 [(0, .ref a0), (1, .ref a1), (2, .int v2), (3, .int (v3 + 1))] []) : kv_V y_Row_firstLike d B Q kc ks n S I 31 [(0, .ref a0), (1, .ref a1), (2, .int v2), (3, .int v3)] [] := by
  refine kv_iinc (v := v3 + 1) (L' := [(3, .int (v3 + 1)), (0, .ref a0), (1, .ref a1), (2, .int v2)]) dd_Row_firstLike_31 rfl rfl (by decide) rfl ?_
  refine kv_goto 14 dd_Row_firstLike_34 (by decide) ?_
  exact kv_loc [1, 2, 3, 0] rfl K
theorem bl_Row_firstLike_37 {d : Nat} {B : kv_B} {Q : kv_Q} {kc ks n : Nat} {S : kv_SM} {I : kv_IM} {a0 : Nat} {a1 : Nat} {v2 : Int32} {v3 : Int32} (hQ : Q (some (.int v2)) n S I) : kv_V y_Row_firstLike d B Q kc ks n S I 37 [(0, .ref a0), (1, .ref a1), (2, .int v2), (3, .int v3)] [] := by
  refine kv_iload_n dd_Row_firstLike_37 rfl ?_
  exact kv_end (v := some (.int v2)) hQ ⟨dd_Row_firstLike_38, .int, rfl, rfl⟩
theorem bl_Row_lastLike_0 {d : Nat} {B : kv_B} {Q : kv_Q} {kc ks n : Nat} {S : kv_SM} {I : kv_IM} {a0 : Nat} {a1 : Nat} {r1 : Nat → Option Nat} {r2 : Nat → Option Nat} (hd1 : 1 ≤ d) (hO1 : S a0 = kO 0 r1) (hO2 : S a1 = kO 0 r2) (K : kv_V y_Row_lastLike d B Q kc ks n S I 14 [(0, .ref a0), (1, .ref a1), (2, .int (if (I a1 5) < (I a0 5) then (I a1 5) else (I a0 5))), (3, .int 0)] []) : kv_V y_Row_lastLike d B Q kc ks n S I 0 [(0, .ref a0), (1, .ref a1)] [] := by
  refine kv_aload_n dd_Row_lastLike_0 rfl ?_
  refine kv_getI fl_Row_30 dd_Row_lastLike_1 hO1 ?_
  refine kv_aload_n dd_Row_lastLike_4 rfl ?_
  refine kv_getI fl_Row_30 dd_Row_lastLike_5 hO2 ?_
  refine kv_mmin wm_Row_64 wx_min_s wi_java_lang_Math wx_min_c dd_Row_lastLike_8 hd1 (Nat.le_of_ble_eq_true rfl) ?_
  refine kv_istore_n (L' := [(2, .int (if (I a1 5) < (I a0 5) then (I a1 5) else (I a0 5))), (0, .ref a0), (1, .ref a1)]) dd_Row_lastLike_11 (by decide) rfl ?_
  refine kv_iconst (v := 0) dd_Row_lastLike_12 (by decide) ?_
  refine kv_istore_n (L' := [(3, .int 0), (2, .int (if (I a1 5) < (I a0 5) then (I a1 5) else (I a0 5))), (0, .ref a0), (1, .ref a1)]) dd_Row_lastLike_13 (by decide) rfl ?_
  exact kv_loc [2, 3, 1, 0] rfl K
theorem bl_Row_lastLike_14 {d : Nat} {B : kv_B} {Q : kv_Q} {kc ks n : Nat} {S : kv_SM} {I : kv_IM} {a0 : Nat} {a1 : Nat} {v2 : Int32} {v3 : Int32} (Kt : v2 ≤ v3 → kv_V y_Row_lastLike d B Q kc ks n S I 51 [(0, .ref a0), (1, .ref a1), (2, .int v2), (3, .int v3)] []) (Kf : ¬ v2 ≤ v3 → kv_V y_Row_lastLike d B Q kc ks n S I 19 [(0, .ref a0), (1, .ref a1), (2, .int v2), (3, .int v3)] []) : kv_V y_Row_lastLike d B Q kc ks n S I 14 [(0, .ref a0), (1, .ref a1), (2, .int v2), (3, .int v3)] [] := by
  refine kv_iload_n dd_Row_lastLike_14 rfl ?_
  refine kv_iload_n dd_Row_lastLike_15 rfl ?_
  exact kv_icmp_ge 51 dd_Row_lastLike_16 (by decide) (fun h => kv_loc [0, 1, 2, 3] rfl (Kt h)) (fun h => kv_loc [0, 1, 2, 3] rfl (Kf h))
theorem bl_Row_lastLike_19 {d : Nat} {B : kv_B} {Q : kv_Q} {kc ks n : Nat} {S : kv_SM} {I : kv_IM} {a0 : Nat} {a1 : Nat} {v2 : Int32} {v3 : Int32} {r1 : Nat → Option Nat} {r2 : Nat → Option Nat} {dc kcc ksc : Nat} {Qy : kv_Q} (hO1 : S a0 = kO 0 r1) (hO2 : S a1 = kO 0 r2) (hM : kv_T y_Row_isLike dc kcc ksc B [.ref a0, .int (((I a0 5) - 1) - v3), .ref a1, .int (((I a1 5) - 1) - v3)] n S I Qy) (hdp : dc + 1 ≤ d) (hkk : kcc ≤ kc) (hkl : ksc ≤ ks) (K : ∀ v n' S' I', Qy v n' S' I' → kv_V y_Row_lastLike d B Q (kc - kcc) (ks - ksc) n' S' I' 40 [(0, .ref a0), (1, .ref a1), (2, .int v2), (3, .int v3)] (v.toList ++ [])) : kv_V y_Row_lastLike d B Q kc ks n S I 19 [(0, .ref a0), (1, .ref a1), (2, .int v2), (3, .int v3)] [] := by
  refine kv_aload_n dd_Row_lastLike_19 rfl ?_
  refine kv_aload_n dd_Row_lastLike_20 rfl ?_
  refine kv_getI fl_Row_30 dd_Row_lastLike_21 hO1 ?_
  refine kv_iconst (v := 1) dd_Row_lastLike_24 (by decide) ?_
  refine kv_isub dd_Row_lastLike_25 ?_
  refine kv_iload_n dd_Row_lastLike_26 rfl ?_
  refine kv_isub dd_Row_lastLike_27 ?_
  refine kv_aload_n dd_Row_lastLike_28 rfl ?_
  refine kv_aload_n dd_Row_lastLike_29 rfl ?_
  refine kv_getI fl_Row_30 dd_Row_lastLike_30 hO2 ?_
  refine kv_iconst (v := 1) dd_Row_lastLike_33 (by decide) ?_
  refine kv_isub dd_Row_lastLike_34 ?_
  refine kv_iload_n dd_Row_lastLike_35 rfl ?_
  refine kv_isub dd_Row_lastLike_36 ?_
  exact kv_callV [.int (((I a0 5) - 1) - v3), .ref a1, .int (((I a1 5) - 1) - v3)] [] ls_Row_57 hO1 hM dd_Row_lastLike_37 rfl hdp (Nat.le_of_ble_eq_true rfl) hkk hkl (fun v n' S' I' hv => kv_loc [0, 1, 2, 3] rfl (K v n' S' I' hv))
theorem bl_Row_lastLike_40 {d : Nat} {B : kv_B} {Q : kv_Q} {kc ks n : Nat} {S : kv_SM} {I : kv_IM} {a0 : Nat} {a1 : Nat} {v2 : Int32} {v3 : Int32} {t0 : Int32} (Kt : ¬ t0 = 0 → kv_V y_Row_lastLike d B Q kc ks n S I 45 [(0, .ref a0), (1, .ref a1), (2, .int v2), (3, .int v3)] []) (Kf : t0 = 0 → kv_V y_Row_lastLike d B Q kc ks n S I 43 [(0, .ref a0), (1, .ref a1), (2, .int v2), (3, .int v3)] []) : kv_V y_Row_lastLike d B Q kc ks n S I 40 [(0, .ref a0), (1, .ref a1), (2, .int v2), (3, .int v3)] [.int t0] := by
  exact kv_if_ne 45 dd_Row_lastLike_40 (by decide) (fun h => kv_loc [0, 1, 2, 3] rfl (Kt h)) (fun h => kv_loc [0, 1, 2, 3] rfl (Kf h))
theorem bl_Row_lastLike_43 {d : Nat} {B : kv_B} {Q : kv_Q} {kc ks n : Nat} {S : kv_SM} {I : kv_IM} {a0 : Nat} {a1 : Nat} {v2 : Int32} {v3 : Int32} (hQ : Q (some (.int v3)) n S I) : kv_V y_Row_lastLike d B Q kc ks n S I 43 [(0, .ref a0), (1, .ref a1), (2, .int v2), (3, .int v3)] [] := by
  refine kv_iload_n dd_Row_lastLike_43 rfl ?_
  exact kv_end (v := some (.int v3)) hQ ⟨dd_Row_lastLike_44, .int, rfl, rfl⟩
theorem bl_Row_lastLike_45 {d : Nat} {B : kv_B} {Q : kv_Q} {kc ks n : Nat} {S : kv_SM} {I : kv_IM} {a0 : Nat} {a1 : Nat} {v2 : Int32} {v3 : Int32} (K : kv_V y_Row_lastLike d B Q kc ks n S I 14 [(0, .ref a0), (1, .ref a1), (2, .int v2), (3, .int (v3 + 1))] []) : kv_V y_Row_lastLike d B Q kc ks n S I 45 [(0, .ref a0), (1, .ref a1), (2, .int v2), (3, .int v3)] [] := by
  refine kv_iinc (v := v3 + 1) (L' := [(3, .int (v3 + 1)), (0, .ref a0), (1, .ref a1), (2, .int v2)]) dd_Row_lastLike_45 rfl rfl (by decide) rfl ?_
  refine kv_goto 14 dd_Row_lastLike_48 (by decide) ?_
  exact kv_loc [1, 2, 3, 0] rfl K
theorem bl_Row_lastLike_51 {d : Nat} {B : kv_B} {Q : kv_Q} {kc ks n : Nat} {S : kv_SM} {I : kv_IM} {a0 : Nat} {a1 : Nat} {v2 : Int32} {v3 : Int32} (hQ : Q (some (.int v2)) n S I) : kv_V y_Row_lastLike d B Q kc ks n S I 51 [(0, .ref a0), (1, .ref a1), (2, .int v2), (3, .int v3)] [] := by
  refine kv_iload_n dd_Row_lastLike_51 rfl ?_
  exact kv_end (v := some (.int v2)) hQ ⟨dd_Row_lastLike_52, .int, rfl, rfl⟩
theorem bl_Sto_takeIn_0 {d : Nat} {B : kv_B} {Q : kv_Q} {kc ks n : Nat} {S : kv_SM} {I : kv_IM} {a0 : Nat} {a1 : Nat} {dc kcc ksc : Nat} {Qy : kv_Q} {r1 : Nat → Option Nat} (hO1 : S a0 = kO 3 r1) (hM : kv_T y_Sto_leastFree dc kcc ksc B [.ref a0] n S I Qy) (hdp : dc + 1 ≤ d) (hkk : kcc ≤ kc) (hkl : ksc ≤ ks) (K : ∀ v n' S' I', Qy v n' S' I' → kv_V y_Sto_takeIn d B Q (kc - kcc) (ks - ksc) n' S' I' 4 [(0, .ref a0), (1, .ref a1)] (v.toList ++ [])) : kv_V y_Sto_takeIn d B Q kc ks n S I 0 [(0, .ref a0), (1, .ref a1)] [] := by
  refine kv_aload_n dd_Sto_takeIn_0 rfl ?_
  exact kv_callV [] [] ls_Sto_38 hO1 hM dd_Sto_takeIn_1 rfl hdp (Nat.le_of_ble_eq_true rfl) hkk hkl (fun v n' S' I' hv => kv_loc [0, 1] rfl (K v n' S' I' hv))
theorem bl_Sto_takeIn_4 {d : Nat} {B : kv_B} {Q : kv_Q} {kc ks n : Nat} {S : kv_SM} {I : kv_IM} {a0 : Nat} {a1 : Nat} {t0 : Int32} (Kt : ¬ t0 = ((-1)) → kv_V y_Sto_takeIn d B Q kc ks n S I 13 [(0, .ref a0), (1, .ref a1), (2, .int t0)] []) (Kf : t0 = ((-1)) → kv_V y_Sto_takeIn d B Q kc ks n S I 10 [(0, .ref a0), (1, .ref a1), (2, .int t0)] []) : kv_V y_Sto_takeIn d B Q kc ks n S I 4 [(0, .ref a0), (1, .ref a1)] [.int t0] := by
  refine kv_istore_n (L' := [(2, .int t0), (0, .ref a0), (1, .ref a1)]) dd_Sto_takeIn_4 (by decide) rfl ?_
  refine kv_iload_n dd_Sto_takeIn_5 rfl ?_
  refine kv_iconst (v := (-1)) dd_Sto_takeIn_6 (by decide) ?_
  exact kv_icmp_ne 13 dd_Sto_takeIn_7 (by decide) (fun h => kv_loc [1, 2, 0] rfl (Kt h)) (fun h => kv_loc [1, 2, 0] rfl (Kf h))
theorem bl_Sto_takeIn_10 {d : Nat} {B : kv_B} {Q : kv_Q} {kc ks n : Nat} {S : kv_SM} {I : kv_IM} {a0 : Nat} {a1 : Nat} {v2 : Int32} (hQ : Q (some (.int ((-2)))) n S I) : kv_V y_Sto_takeIn d B Q kc ks n S I 10 [(0, .ref a0), (1, .ref a1), (2, .int v2)] [] := by
  refine kv_bipush (v := (-2)) dd_Sto_takeIn_10 (by decide) ?_
  exact kv_end (v := some (.int ((-2)))) hQ ⟨dd_Sto_takeIn_12, .int, rfl, rfl⟩
theorem bl_Sto_takeIn_13 {d : Nat} {B : kv_B} {Q : kv_Q} {kc ks n : Nat} {S : kv_SM} {I : kv_IM} {a0 : Nat} {a1 : Nat} {v2 : Int32} {r1 : Nat → Option Nat} {q2 : Nat} {m3 : Nat} {r3 : Nat → Option Nat} {j4 : Nat} {q5 : Nat} (hO1 : S a0 = kO 3 r1) (hr2 : r1 3 = some q2) (hA3 : S q2 = kA 2 m3 r3) (hi4 : v2 = nI j4 ∧ j4 < m3 ∧ m3 < 2 ^ 31) (he5 : r3 j4 = some q5) (K : kv_V y_Sto_takeIn d B Q kc ks n S I 23 [(0, .ref a0), (1, .ref a1), (2, .int v2), (3, .ref q5), (4, .int 0)] []) : kv_V y_Sto_takeIn d B Q kc ks n S I 13 [(0, .ref a0), (1, .ref a1), (2, .int v2)] [] := by
  refine kv_aload_n dd_Sto_takeIn_13 rfl ?_
  refine kv_getR fl_Sto_29 dd_Sto_takeIn_14 hO1 hr2 ?_
  refine kv_iload_n dd_Sto_takeIn_17 rfl ?_
  refine kv_aald j4 dd_Sto_takeIn_18 hA3 ⟨3, _, fun _ => rfl⟩ hi4.1 hi4.2.1 hi4.2.2 he5 ?_
  refine kv_astore_n (L' := [(3, .ref q5), (0, .ref a0), (1, .ref a1), (2, .int v2)]) dd_Sto_takeIn_19 (by decide) rfl ?_
  refine kv_iconst (v := 0) dd_Sto_takeIn_20 (by decide) ?_
  refine kv_istore (L' := [(4, .int 0), (3, .ref q5), (0, .ref a0), (1, .ref a1), (2, .int v2)]) dd_Sto_takeIn_21 (by decide) rfl ?_
  exact kv_loc [2, 3, 4, 1, 0] rfl K
theorem bl_Sto_takeIn_23 {d : Nat} {B : kv_B} {Q : kv_Q} {kc ks n : Nat} {S : kv_SM} {I : kv_IM} {a0 : Nat} {a1 : Nat} {v2 : Int32} {a3 : Nat} {v4 : Int32} {r1 : Nat → Option Nat} (hO1 : S a1 = kO 0 r1) (Kt : (I a1 5) ≤ v4 → kv_V y_Sto_takeIn d B Q kc ks n S I 105 [(0, .ref a0), (1, .ref a1), (2, .int v2), (3, .ref a3), (4, .int v4)] []) (Kf : ¬ (I a1 5) ≤ v4 → kv_V y_Sto_takeIn d B Q kc ks n S I 32 [(0, .ref a0), (1, .ref a1), (2, .int v2), (3, .ref a3), (4, .int v4)] []) : kv_V y_Sto_takeIn d B Q kc ks n S I 23 [(0, .ref a0), (1, .ref a1), (2, .int v2), (3, .ref a3), (4, .int v4)] [] := by
  refine kv_iload dd_Sto_takeIn_23 rfl ?_
  refine kv_aload_n dd_Sto_takeIn_25 rfl ?_
  refine kv_getI fl_Sto_42 dd_Sto_takeIn_26 hO1 ?_
  exact kv_icmp_ge 105 dd_Sto_takeIn_29 (by decide) (fun h => kv_loc [0, 1, 2, 3, 4] rfl (Kt h)) (fun h => kv_loc [0, 1, 2, 3, 4] rfl (Kf h))
theorem bl_Sto_takeIn_32 {d : Nat} {B : kv_B} {Q : kv_Q} {kc ks n : Nat} {S : kv_SM} {I : kv_IM} {a0 : Nat} {a1 : Nat} {v2 : Int32} {a3 : Nat} {v4 : Int32} {r1 : Nat → Option Nat} {q2 : Nat} {dc kcc ksc : Nat} {Qy : kv_Q} {r3 : Nat → Option Nat} (hO1 : S a0 = kO 3 r1) (hr2 : r1 0 = some q2) (hO3 : S q2 = kO 0 r3) (hM : kv_T y_Row_find dc kcc ksc B [.ref q2, .ref a1, .int v4] n S I Qy) (hdp : dc + 1 ≤ d) (hkk : kcc ≤ kc) (hkl : ksc ≤ ks) (K : ∀ v n' S' I', Qy v n' S' I' → kv_V y_Sto_takeIn d B Q (kc - kcc) (ks - ksc) n' S' I' 42 [(0, .ref a0), (1, .ref a1), (2, .int v2), (3, .ref a3), (4, .int v4)] (v.toList ++ [])) : kv_V y_Sto_takeIn d B Q kc ks n S I 32 [(0, .ref a0), (1, .ref a1), (2, .int v2), (3, .ref a3), (4, .int v4)] [] := by
  refine kv_aload_n dd_Sto_takeIn_32 rfl ?_
  refine kv_getR fl_Sto_14 dd_Sto_takeIn_33 hO1 hr2 ?_
  refine kv_aload_n dd_Sto_takeIn_36 rfl ?_
  refine kv_iload dd_Sto_takeIn_37 rfl ?_
  exact kv_callV [.ref a1, .int v4] [] ls_Sto_46 hO3 hM dd_Sto_takeIn_39 rfl hdp (Nat.le_of_ble_eq_true rfl) hkk hkl (fun v n' S' I' hv => kv_loc [0, 1, 2, 3, 4] rfl (K v n' S' I' hv))
theorem bl_Sto_takeIn_42 {d : Nat} {B : kv_B} {Q : kv_Q} {kc ks n : Nat} {S : kv_SM} {I : kv_IM} {a0 : Nat} {a1 : Nat} {v2 : Int32} {a3 : Nat} {v4 : Int32} {t0 : Int32} (Kt : ¬ t0 = ((-1)) → kv_V y_Sto_takeIn d B Q kc ks n S I 74 [(0, .ref a0), (1, .ref a1), (2, .int v2), (3, .ref a3), (4, .int v4), (5, .int t0)] []) (Kf : t0 = ((-1)) → kv_V y_Sto_takeIn d B Q kc ks n S I 50 [(0, .ref a0), (1, .ref a1), (2, .int v2), (3, .ref a3), (4, .int v4), (5, .int t0)] []) : kv_V y_Sto_takeIn d B Q kc ks n S I 42 [(0, .ref a0), (1, .ref a1), (2, .int v2), (3, .ref a3), (4, .int v4)] [.int t0] := by
  refine kv_istore (L' := [(5, .int t0), (0, .ref a0), (1, .ref a1), (2, .int v2), (3, .ref a3), (4, .int v4)]) dd_Sto_takeIn_42 (by decide) rfl ?_
  refine kv_iload dd_Sto_takeIn_44 rfl ?_
  refine kv_iconst (v := (-1)) dd_Sto_takeIn_46 (by decide) ?_
  exact kv_icmp_ne 74 dd_Sto_takeIn_47 (by decide) (fun h => kv_loc [1, 2, 3, 4, 5, 0] rfl (Kt h)) (fun h => kv_loc [1, 2, 3, 4, 5, 0] rfl (Kf h))
theorem bl_Sto_takeIn_50 {d : Nat} {B : kv_B} {Q : kv_Q} {kc ks n : Nat} {S : kv_SM} {I : kv_IM} {a0 : Nat} {a1 : Nat} {v2 : Int32} {a3 : Nat} {v4 : Int32} {v5 : Int32} {r1 : Nat → Option Nat} {q2 : Nat} {dc kcc ksc : Nat} {Qy : kv_Q} {r3 : Nat → Option Nat} (hO1 : S a0 = kO 3 r1) (hr2 : r1 0 = some q2) (hO3 : S a1 = kO 0 r3) (hM : kv_T y_Row_bytesOf dc kcc ksc B [.ref a1, .int v4] n S I Qy) (hdp : dc + 1 ≤ d) (hkk : kcc ≤ kc) (hkl : ksc ≤ ks) (K : ∀ v n' S' I', Qy v n' S' I' → kv_V y_Sto_takeIn d B Q (kc - kcc) (ks - ksc) n' S' I' 60 [(0, .ref a0), (1, .ref a1), (2, .int v2), (3, .ref a3), (4, .int v4), (5, .int v5)] (v.toList ++ [.ref q2])) : kv_V y_Sto_takeIn d B Q kc ks n S I 50 [(0, .ref a0), (1, .ref a1), (2, .int v2), (3, .ref a3), (4, .int v4), (5, .int v5)] [] := by
  refine kv_aload_n dd_Sto_takeIn_50 rfl ?_
  refine kv_getR fl_Sto_14 dd_Sto_takeIn_51 hO1 hr2 ?_
  refine kv_aload_n dd_Sto_takeIn_54 rfl ?_
  refine kv_iload dd_Sto_takeIn_55 rfl ?_
  exact kv_callV [.int v4] [.ref q2] ls_Sto_50 hO3 hM dd_Sto_takeIn_57 rfl hdp (Nat.le_of_ble_eq_true rfl) hkk hkl (fun v n' S' I' hv => kv_loc [0, 1, 2, 3, 4, 5] rfl (K v n' S' I' hv))
theorem bl_Sto_takeIn_60 {d : Nat} {B : kv_B} {Q : kv_Q} {kc ks n : Nat} {S : kv_SM} {I : kv_IM} {a0 : Nat} {a1 : Nat} {v2 : Int32} {a3 : Nat} {v4 : Int32} {v5 : Int32} {t0 : Int32} {t1 : Nat} {dc kcc ksc : Nat} {Qy : kv_Q} {r1 : Nat → Option Nat} (hO1 : S t1 = kO 0 r1) (hM : kv_T y_Row_hasRoomFor dc kcc ksc B [.ref t1, .int t0] n S I Qy) (hdp : dc + 1 ≤ d) (hkk : kcc ≤ kc) (hkl : ksc ≤ ks) (K : ∀ v n' S' I', Qy v n' S' I' → kv_V y_Sto_takeIn d B Q (kc - kcc) (ks - ksc) n' S' I' 63 [(0, .ref a0), (1, .ref a1), (2, .int v2), (3, .ref a3), (4, .int v4), (5, .int v5)] (v.toList ++ [])) : kv_V y_Sto_takeIn d B Q kc ks n S I 60 [(0, .ref a0), (1, .ref a1), (2, .int v2), (3, .ref a3), (4, .int v4), (5, .int v5)] [.int t0, .ref t1] := by
  exact kv_callV [.int t0] [] ls_Sto_54 hO1 hM dd_Sto_takeIn_60 rfl hdp (Nat.le_of_ble_eq_true rfl) hkk hkl (fun v n' S' I' hv => kv_loc [0, 1, 2, 3, 4, 5] rfl (K v n' S' I' hv))
theorem bl_Sto_takeIn_63 {d : Nat} {B : kv_B} {Q : kv_Q} {kc ks n : Nat} {S : kv_SM} {I : kv_IM} {a0 : Nat} {a1 : Nat} {v2 : Int32} {a3 : Nat} {v4 : Int32} {v5 : Int32} {t0 : Int32} (Kt : ¬ t0 = 0 → kv_V y_Sto_takeIn d B Q kc ks n S I 74 [(0, .ref a0), (1, .ref a1), (2, .int v2), (3, .ref a3), (4, .int v4), (5, .int v5)] []) (Kf : t0 = 0 → kv_V y_Sto_takeIn d B Q kc ks n S I 66 [(0, .ref a0), (1, .ref a1), (2, .int v2), (3, .ref a3), (4, .int v4), (5, .int v5)] []) : kv_V y_Sto_takeIn d B Q kc ks n S I 63 [(0, .ref a0), (1, .ref a1), (2, .int v2), (3, .ref a3), (4, .int v4), (5, .int v5)] [.int t0] := by
  exact kv_if_ne 74 dd_Sto_takeIn_63 (by decide) (fun h => kv_loc [0, 1, 2, 3, 4, 5] rfl (Kt h)) (fun h => kv_loc [0, 1, 2, 3, 4, 5] rfl (Kf h))
theorem bl_Sto_takeIn_66 {d : Nat} {B : kv_B} {Q : kv_Q} {kc ks n : Nat} {S : kv_SM} {I : kv_IM} {a0 : Nat} {a1 : Nat} {v2 : Int32} {a3 : Nat} {v4 : Int32} {v5 : Int32} {dc kcc ksc : Nat} {Qy : kv_Q} {r1 : Nat → Option Nat} (hO1 : S a0 = kO 3 r1) (hM : kv_T y_Sto_sweep dc kcc ksc B [.ref a0] n S I Qy) (hdp : dc + 1 ≤ d) (hkk : kcc ≤ kc) (hkl : ksc ≤ ks) (K : ∀ v n' S' I', Qy v n' S' I' → kv_V y_Sto_takeIn d B Q (kc - kcc) (ks - ksc) n' S' I' 70 [(0, .ref a0), (1, .ref a1), (2, .int v2), (3, .ref a3), (4, .int v4), (5, .int v5)] (v.toList ++ [])) : kv_V y_Sto_takeIn d B Q kc ks n S I 66 [(0, .ref a0), (1, .ref a1), (2, .int v2), (3, .ref a3), (4, .int v4), (5, .int v5)] [] := by
  refine kv_aload_n dd_Sto_takeIn_66 rfl ?_
  exact kv_callV [] [] ls_Sto_58 hO1 hM dd_Sto_takeIn_67 rfl hdp (Nat.le_of_ble_eq_true rfl) hkk hkl (fun v n' S' I' hv => kv_loc [0, 1, 2, 3, 4, 5] rfl (K v n' S' I' hv))
theorem bl_Sto_takeIn_70 {d : Nat} {B : kv_B} {Q : kv_Q} {kc ks n : Nat} {S : kv_SM} {I : kv_IM} {a0 : Nat} {a1 : Nat} {v2 : Int32} {a3 : Nat} {v4 : Int32} {v5 : Int32} {t0 : Int32} (hQ : Q (some (.int ((-2)))) n S I) : kv_V y_Sto_takeIn d B Q kc ks n S I 70 [(0, .ref a0), (1, .ref a1), (2, .int v2), (3, .ref a3), (4, .int v4), (5, .int v5)] [.int t0] := by
  refine kv_pop dd_Sto_takeIn_70 rfl ?_
  refine kv_bipush (v := (-2)) dd_Sto_takeIn_71 (by decide) ?_
  exact kv_end (v := some (.int ((-2)))) hQ ⟨dd_Sto_takeIn_73, .int, rfl, rfl⟩
theorem bl_Sto_takeIn_74 {d : Nat} {B : kv_B} {Q : kv_Q} {kc ks n : Nat} {S : kv_SM} {I : kv_IM} {a0 : Nat} {a1 : Nat} {v2 : Int32} {a3 : Nat} {v4 : Int32} {v5 : Int32} {r1 : Nat → Option Nat} {q2 : Nat} (hO1 : S a3 = kO 2 r1) (hr2 : r1 0 = some q2) (Kt : ¬ v5 = ((-1)) → kv_V y_Sto_takeIn d B Q kc ks n S I 96 [(0, .ref a0), (1, .ref a1), (2, .int v2), (3, .ref a3), (4, .int v4), (5, .int v5)] [.int v4, .ref q2]) (Kf : v5 = ((-1)) → kv_V y_Sto_takeIn d B Q kc ks n S I 86 [(0, .ref a0), (1, .ref a1), (2, .int v2), (3, .ref a3), (4, .int v4), (5, .int v5)] [.int v4, .ref q2]) : kv_V y_Sto_takeIn d B Q kc ks n S I 74 [(0, .ref a0), (1, .ref a1), (2, .int v2), (3, .ref a3), (4, .int v4), (5, .int v5)] [] := by
  refine kv_aload_n dd_Sto_takeIn_74 rfl ?_
  refine kv_getR fl_Sto_61 dd_Sto_takeIn_75 hO1 hr2 ?_
  refine kv_iload dd_Sto_takeIn_78 rfl ?_
  refine kv_iload dd_Sto_takeIn_80 rfl ?_
  refine kv_iconst (v := (-1)) dd_Sto_takeIn_82 (by decide) ?_
  exact kv_icmp_ne 96 dd_Sto_takeIn_83 (by decide) (fun h => kv_loc [0, 1, 2, 3, 4, 5] rfl (Kt h)) (fun h => kv_loc [0, 1, 2, 3, 4, 5] rfl (Kf h))
theorem bl_Sto_takeIn_86 {d : Nat} {B : kv_B} {Q : kv_Q} {kc ks n : Nat} {S : kv_SM} {I : kv_IM} {a0 : Nat} {a1 : Nat} {v2 : Int32} {a3 : Nat} {v4 : Int32} {v5 : Int32} {t0 : Int32} {t1 : Nat} {dc kcc ksc : Nat} {Qy : kv_Q} {r1 : Nat → Option Nat} (hO1 : S a0 = kO 3 r1) (hM : kv_T y_Sto_takeInNew dc kcc ksc B [.ref a0, .ref a1, .int v4] n S I Qy) (hdp : dc + 1 ≤ d) (hkk : kcc ≤ kc) (hkl : ksc ≤ ks) (K : ∀ v n' S' I', Qy v n' S' I' → kv_V y_Sto_takeIn d B Q (kc - kcc) (ks - ksc) n' S' I' 93 [(0, .ref a0), (1, .ref a1), (2, .int v2), (3, .ref a3), (4, .int v4), (5, .int v5)] (v.toList ++ [.int t0, .ref t1])) : kv_V y_Sto_takeIn d B Q kc ks n S I 86 [(0, .ref a0), (1, .ref a1), (2, .int v2), (3, .ref a3), (4, .int v4), (5, .int v5)] [.int t0, .ref t1] := by
  refine kv_aload_n dd_Sto_takeIn_86 rfl ?_
  refine kv_aload_n dd_Sto_takeIn_87 rfl ?_
  refine kv_iload dd_Sto_takeIn_88 rfl ?_
  exact kv_callV [.ref a1, .int v4] [.int t0, .ref t1] ls_Sto_64 hO1 hM dd_Sto_takeIn_90 rfl hdp (Nat.le_of_ble_eq_true rfl) hkk hkl (fun v n' S' I' hv => kv_loc [0, 1, 2, 3, 4, 5] rfl (K v n' S' I' hv))
theorem bl_Sto_takeIn_93 {d : Nat} {B : kv_B} {Q : kv_Q} {kc ks n : Nat} {S : kv_SM} {I : kv_IM} {a0 : Nat} {a1 : Nat} {v2 : Int32} {a3 : Nat} {v4 : Int32} {v5 : Int32} {t0 : Int32} {t1 : Int32} {t2 : Nat} (K : kv_V y_Sto_takeIn d B Q kc ks n S I 98 [(0, .ref a0), (1, .ref a1), (2, .int v2), (3, .ref a3), (4, .int v4), (5, .int v5)] [.int t0, .int t1, .ref t2]) : kv_V y_Sto_takeIn d B Q kc ks n S I 93 [(0, .ref a0), (1, .ref a1), (2, .int v2), (3, .ref a3), (4, .int v4), (5, .int v5)] [.int t0, .int t1, .ref t2] := by
  refine kv_goto 98 dd_Sto_takeIn_93 (by decide) ?_
  exact kv_loc [0, 1, 2, 3, 4, 5] rfl K
theorem bl_Sto_takeIn_96 {d : Nat} {B : kv_B} {Q : kv_Q} {kc ks n : Nat} {S : kv_SM} {I : kv_IM} {a0 : Nat} {a1 : Nat} {v2 : Int32} {a3 : Nat} {v4 : Int32} {v5 : Int32} {t0 : Int32} {t1 : Nat} (K : kv_V y_Sto_takeIn d B Q kc ks n S I 98 [(0, .ref a0), (1, .ref a1), (2, .int v2), (3, .ref a3), (4, .int v4), (5, .int v5)] [.int v5, .int t0, .ref t1]) : kv_V y_Sto_takeIn d B Q kc ks n S I 96 [(0, .ref a0), (1, .ref a1), (2, .int v2), (3, .ref a3), (4, .int v4), (5, .int v5)] [.int t0, .ref t1] := by
  refine kv_iload dd_Sto_takeIn_96 rfl ?_
  exact kv_loc [0, 1, 2, 3, 4, 5] rfl K
theorem bl_Sto_takeIn_98 {d : Nat} {B : kv_B} {Q : kv_Q} {kc ks n : Nat} {S : kv_SM} {I : kv_IM} {a0 : Nat} {a1 : Nat} {v2 : Int32} {a3 : Nat} {v4 : Int32} {v5 : Int32} {t0 : Int32} {t1 : Int32} {t2 : Nat} {m1 : Nat} {j2 : Nat} (hA1 : S t2 = kI m1) (hi2 : t1 = nI j2 ∧ j2 < m1 ∧ m1 < 2 ^ 31) (K : kv_V y_Sto_takeIn d B Q kc ks n S (kv_up I t2 j2 t0) 23 [(0, .ref a0), (1, .ref a1), (2, .int v2), (3, .ref a3), (4, .int (v4 + 1))] []) : kv_V y_Sto_takeIn d B Q kc ks n S I 98 [(0, .ref a0), (1, .ref a1), (2, .int v2), (3, .ref a3), (4, .int v4), (5, .int v5)] [.int t0, .int t1, .ref t2] := by
  refine kv_iast j2 dd_Sto_takeIn_98 hA1 hi2.1 hi2.2.1 hi2.2.2 ?_
  refine kv_iinc (v := v4 + 1) (L' := [(4, .int (v4 + 1)), (0, .ref a0), (1, .ref a1), (2, .int v2), (3, .ref a3), (5, .int v5)]) dd_Sto_takeIn_99 rfl rfl (by decide) rfl ?_
  refine kv_goto 23 dd_Sto_takeIn_102 (by decide) ?_
  exact kv_loc [1, 2, 3, 4, 0] rfl K
theorem bl_Sto_takeIn_105 {d : Nat} {B : kv_B} {Q : kv_Q} {kc ks n : Nat} {S : kv_SM} {I : kv_IM} {a0 : Nat} {a1 : Nat} {v2 : Int32} {a3 : Nat} {v4 : Int32} {r1 : Nat → Option Nat} {r2 : Nat → Option Nat} {dc kcc ksc : Nat} {Qy : kv_Q} (hO1 : S a1 = kO 0 r1) (hO2 : S a3 = kO 2 r2) (hM : kv_T y_Row_end dc kcc ksc B [.ref a1] n S (kv_up I a3 1 (I a1 5)) Qy) (hdp : dc + 1 ≤ d) (hkk : kcc ≤ kc) (hkl : ksc ≤ ks) (K : ∀ v n' S' I', Qy v n' S' I' → kv_V y_Sto_takeIn d B Q (kc - kcc) (ks - ksc) n' S' I' 118 [(0, .ref a0), (1, .ref a1), (2, .int v2), (3, .ref a3), (4, .int v4)] (v.toList ++ [.ref a3])) : kv_V y_Sto_takeIn d B Q kc ks n S I 105 [(0, .ref a0), (1, .ref a1), (2, .int v2), (3, .ref a3), (4, .int v4)] [] := by
  refine kv_aload_n dd_Sto_takeIn_105 rfl ?_
  refine kv_aload_n dd_Sto_takeIn_106 rfl ?_
  refine kv_getI fl_Sto_42 dd_Sto_takeIn_107 hO1 ?_
  refine kv_putI fp_Sto_67 (fun h => by cases h) dd_Sto_takeIn_110 hO2 rfl rfl ?_
  refine kv_aload_n dd_Sto_takeIn_113 rfl ?_
  refine kv_aload_n dd_Sto_takeIn_114 rfl ?_
  exact kv_callV [] [.ref a3] ls_Sto_68 hO1 hM dd_Sto_takeIn_115 rfl hdp (Nat.le_of_ble_eq_true rfl) hkk hkl (fun v n' S' I' hv => kv_loc [0, 1, 2, 3, 4] rfl (K v n' S' I' hv))
theorem bl_Sto_takeIn_118 {d : Nat} {B : kv_B} {Q : kv_Q} {kc ks n : Nat} {S : kv_SM} {I : kv_IM} {a0 : Nat} {a1 : Nat} {v2 : Int32} {a3 : Nat} {v4 : Int32} {t0 : Int32} {t1 : Nat} {r1 : Nat → Option Nat} {r2 : Nat → Option Nat} {dc kcc ksc : Nat} {Qy : kv_Q} {r3 : Nat → Option Nat} (hO1 : S t1 = kO 2 r1) (hO2 : S a3 = kO 2 r2) (hO3 : S a0 = kO 3 r3) (hM : kv_T y_Sto_countPlaces dc kcc ksc B [.ref a0, .ref a3, .int 1] n S (kv_up (kv_up I t1 2 t0) a3 3 1) Qy) (hdp : dc + 1 ≤ d) (hkk : kcc ≤ kc) (hkl : ksc ≤ ks) (K : ∀ v n' S' I', Qy v n' S' I' → kv_V y_Sto_takeIn d B Q (kc - kcc) (ks - ksc) n' S' I' 132 [(0, .ref a0), (1, .ref a1), (2, .int v2), (3, .ref a3), (4, .int v4)] (v.toList ++ [])) : kv_V y_Sto_takeIn d B Q kc ks n S I 118 [(0, .ref a0), (1, .ref a1), (2, .int v2), (3, .ref a3), (4, .int v4)] [.int t0, .ref t1] := by
  refine kv_putI fp_Sto_71 (fun h => by cases h) dd_Sto_takeIn_118 hO1 rfl rfl ?_
  refine kv_aload_n dd_Sto_takeIn_121 rfl ?_
  refine kv_iconst (v := 1) dd_Sto_takeIn_122 (by decide) ?_
  refine kv_putI fp_Sto_34 (fun h => by cases h) dd_Sto_takeIn_123 hO2 rfl rfl ?_
  refine kv_aload_n dd_Sto_takeIn_126 rfl ?_
  refine kv_aload_n dd_Sto_takeIn_127 rfl ?_
  refine kv_iconst (v := 1) dd_Sto_takeIn_128 (by decide) ?_
  exact kv_callV [.ref a3, .int 1] [] ls_Sto_74 hO3 hM dd_Sto_takeIn_129 rfl hdp (Nat.le_of_ble_eq_true rfl) hkk hkl (fun v n' S' I' hv => kv_loc [0, 1, 2, 3, 4] rfl (K v n' S' I' hv))
theorem bl_Sto_takeIn_132 {d : Nat} {B : kv_B} {Q : kv_Q} {kc ks n : Nat} {S : kv_SM} {I : kv_IM} {a0 : Nat} {a1 : Nat} {v2 : Int32} {a3 : Nat} {v4 : Int32} (hQ : Q (some (.int v2)) n S I) : kv_V y_Sto_takeIn d B Q kc ks n S I 132 [(0, .ref a0), (1, .ref a1), (2, .int v2), (3, .ref a3), (4, .int v4)] [] := by
  refine kv_iload_n dd_Sto_takeIn_132 rfl ?_
  exact kv_end (v := some (.int v2)) hQ ⟨dd_Sto_takeIn_133, .int, rfl, rfl⟩
theorem bl_Sto_leastFree_0 {d : Nat} {B : kv_B} {Q : kv_Q} {kc ks n : Nat} {S : kv_SM} {I : kv_IM} {a0 : Nat} (K : kv_V y_Sto_leastFree d B Q kc ks n S I 2 [(0, .ref a0), (1, .int 0)] []) : kv_V y_Sto_leastFree d B Q kc ks n S I 0 [(0, .ref a0)] [] := by
  refine kv_iconst (v := 0) dd_Sto_leastFree_0 (by decide) ?_
  refine kv_istore_n (L' := [(1, .int 0), (0, .ref a0)]) dd_Sto_leastFree_1 (by decide) rfl ?_
  exact kv_loc [1, 0] rfl K
theorem bl_Sto_leastFree_2 {d : Nat} {B : kv_B} {Q : kv_Q} {kc ks n : Nat} {S : kv_SM} {I : kv_IM} {a0 : Nat} {v1 : Int32} (Kt : 10 ≤ v1 → kv_V y_Sto_leastFree d B Q kc ks n S I 28 [(0, .ref a0), (1, .int v1)] []) (Kf : ¬ 10 ≤ v1 → kv_V y_Sto_leastFree d B Q kc ks n S I 8 [(0, .ref a0), (1, .int v1)] []) : kv_V y_Sto_leastFree d B Q kc ks n S I 2 [(0, .ref a0), (1, .int v1)] [] := by
  refine kv_iload_n dd_Sto_leastFree_2 rfl ?_
  refine kv_bipush (v := 10) dd_Sto_leastFree_3 (by decide) ?_
  exact kv_icmp_ge 28 dd_Sto_leastFree_5 (by decide) (fun h => kv_loc [0, 1] rfl (Kt h)) (fun h => kv_loc [0, 1] rfl (Kf h))
theorem bl_Sto_leastFree_8 {d : Nat} {B : kv_B} {Q : kv_Q} {kc ks n : Nat} {S : kv_SM} {I : kv_IM} {a0 : Nat} {v1 : Int32} {r1 : Nat → Option Nat} {q2 : Nat} {m3 : Nat} {r3 : Nat → Option Nat} {j4 : Nat} {q5 : Nat} {r6 : Nat → Option Nat} (hO1 : S a0 = kO 3 r1) (hr2 : r1 3 = some q2) (hA3 : S q2 = kA 2 m3 r3) (hi4 : v1 = nI j4 ∧ j4 < m3 ∧ m3 < 2 ^ 31) (he5 : r3 j4 = some q5) (hO6 : S q5 = kO 2 r6) (Kt : ¬ (I q5 3) = 0 → kv_V y_Sto_leastFree d B Q kc ks n S I 22 [(0, .ref a0), (1, .int v1)] []) (Kf : (I q5 3) = 0 → kv_V y_Sto_leastFree d B Q kc ks n S I 20 [(0, .ref a0), (1, .int v1)] []) : kv_V y_Sto_leastFree d B Q kc ks n S I 8 [(0, .ref a0), (1, .int v1)] [] := by
  refine kv_aload_n dd_Sto_leastFree_8 rfl ?_
  refine kv_getR fl_Sto_29 dd_Sto_leastFree_9 hO1 hr2 ?_
  refine kv_iload_n dd_Sto_leastFree_12 rfl ?_
  refine kv_aald j4 dd_Sto_leastFree_13 hA3 ⟨3, _, fun _ => rfl⟩ hi4.1 hi4.2.1 hi4.2.2 he5 ?_
  refine kv_getI fl_Sto_34 dd_Sto_leastFree_14 hO6 ?_
  exact kv_if_ne 22 dd_Sto_leastFree_17 (by decide) (fun h => kv_loc [0, 1] rfl (Kt h)) (fun h => kv_loc [0, 1] rfl (Kf h))
theorem bl_Sto_leastFree_20 {d : Nat} {B : kv_B} {Q : kv_Q} {kc ks n : Nat} {S : kv_SM} {I : kv_IM} {a0 : Nat} {v1 : Int32} (hQ : Q (some (.int v1)) n S I) : kv_V y_Sto_leastFree d B Q kc ks n S I 20 [(0, .ref a0), (1, .int v1)] [] := by
  refine kv_iload_n dd_Sto_leastFree_20 rfl ?_
  exact kv_end (v := some (.int v1)) hQ ⟨dd_Sto_leastFree_21, .int, rfl, rfl⟩
theorem bl_Sto_leastFree_22 {d : Nat} {B : kv_B} {Q : kv_Q} {kc ks n : Nat} {S : kv_SM} {I : kv_IM} {a0 : Nat} {v1 : Int32} (K : kv_V y_Sto_leastFree d B Q kc ks n S I 2 [(0, .ref a0), (1, .int (v1 + 1))] []) : kv_V y_Sto_leastFree d B Q kc ks n S I 22 [(0, .ref a0), (1, .int v1)] [] := by
  refine kv_iinc (v := v1 + 1) (L' := [(1, .int (v1 + 1)), (0, .ref a0)]) dd_Sto_leastFree_22 rfl rfl (by decide) rfl ?_
  refine kv_goto 2 dd_Sto_leastFree_25 (by decide) ?_
  exact kv_loc [1, 0] rfl K
theorem bl_Sto_leastFree_28 {d : Nat} {B : kv_B} {Q : kv_Q} {kc ks n : Nat} {S : kv_SM} {I : kv_IM} {a0 : Nat} {v1 : Int32} (hQ : Q (some (.int ((-1)))) n S I) : kv_V y_Sto_leastFree d B Q kc ks n S I 28 [(0, .ref a0), (1, .int v1)] [] := by
  refine kv_iconst (v := (-1)) dd_Sto_leastFree_28 (by decide) ?_
  exact kv_end (v := some (.int ((-1)))) hQ ⟨dd_Sto_leastFree_29, .int, rfl, rfl⟩
theorem bl_Row_hasRoomFor_0 {d : Nat} {B : kv_B} {Q : kv_Q} {kc ks n : Nat} {S : kv_SM} {I : kv_IM} {a0 : Nat} {v1 : Int32} {r1 : Nat → Option Nat} {q2 : Nat} {m3 : Nat} (hO1 : S a0 = kO 0 r1) (hr2 : r1 2 = some q2) (hA3 : S q2 = kI m3) (hl4 : 0 < m3) (Kt : (nI m3) ≤ (I a0 5) → kv_V y_Row_hasRoomFor d B Q kc ks n S I 30 [(0, .ref a0), (1, .int v1)] []) (Kf : ¬ (nI m3) ≤ (I a0 5) → kv_V y_Row_hasRoomFor d B Q kc ks n S I 12 [(0, .ref a0), (1, .int v1)] []) : kv_V y_Row_hasRoomFor d B Q kc ks n S I 0 [(0, .ref a0), (1, .int v1)] [] := by
  refine kv_aload_n dd_Row_hasRoomFor_0 rfl ?_
  refine kv_getI fl_Row_30 dd_Row_hasRoomFor_1 hO1 ?_
  refine kv_aload_n dd_Row_hasRoomFor_4 rfl ?_
  refine kv_getR fl_Row_18 dd_Row_hasRoomFor_5 hO1 hr2 ?_
  refine kv_alen dd_Row_hasRoomFor_8 hA3 hl4 ?_
  exact kv_icmp_ge 30 dd_Row_hasRoomFor_9 (by decide) (fun h => kv_loc [0, 1] rfl (Kt h)) (fun h => kv_loc [0, 1] rfl (Kf h))
theorem bl_Row_hasRoomFor_12 {d : Nat} {B : kv_B} {Q : kv_Q} {kc ks n : Nat} {S : kv_SM} {I : kv_IM} {a0 : Nat} {v1 : Int32} {r1 : Nat → Option Nat} {q2 : Nat} {m3 : Nat} {dc kcc ksc : Nat} {Qy : kv_Q} (hO1 : S a0 = kO 0 r1) (hr2 : r1 0 = some q2) (hA3 : S q2 = kI m3) (hl4 : 0 < m3) (hM : kv_T y_Row_end dc kcc ksc B [.ref a0] n S I Qy) (hdp : dc + 1 ≤ d) (hkk : kcc ≤ kc) (hkl : ksc ≤ ks) (K : ∀ v n' S' I', Qy v n' S' I' → kv_V y_Row_hasRoomFor d B Q (kc - kcc) (ks - ksc) n' S' I' 22 [(0, .ref a0), (1, .int v1)] (v.toList ++ [.int (nI m3), .int v1])) : kv_V y_Row_hasRoomFor d B Q kc ks n S I 12 [(0, .ref a0), (1, .int v1)] [] := by
  refine kv_iload_n dd_Row_hasRoomFor_12 rfl ?_
  refine kv_aload_n dd_Row_hasRoomFor_13 rfl ?_
  refine kv_getR fl_Row_9 dd_Row_hasRoomFor_14 hO1 hr2 ?_
  refine kv_alen dd_Row_hasRoomFor_17 hA3 hl4 ?_
  refine kv_aload_n dd_Row_hasRoomFor_18 rfl ?_
  exact kv_callV [] [.int (nI m3), .int v1] ls_Row_70 hO1 hM dd_Row_hasRoomFor_19 rfl hdp (Nat.le_of_ble_eq_true rfl) hkk hkl (fun v n' S' I' hv => kv_loc [0, 1] rfl (K v n' S' I' hv))
theorem bl_Row_hasRoomFor_22 {d : Nat} {B : kv_B} {Q : kv_Q} {kc ks n : Nat} {S : kv_SM} {I : kv_IM} {a0 : Nat} {v1 : Int32} {t0 : Int32} {t1 : Int32} {t2 : Int32} (Kt : (t1 - t0) < t2 → kv_V y_Row_hasRoomFor d B Q kc ks n S I 30 [(0, .ref a0), (1, .int v1)] []) (Kf : ¬ (t1 - t0) < t2 → kv_V y_Row_hasRoomFor d B Q kc ks n S I 26 [(0, .ref a0), (1, .int v1)] []) : kv_V y_Row_hasRoomFor d B Q kc ks n S I 22 [(0, .ref a0), (1, .int v1)] [.int t0, .int t1, .int t2] := by
  refine kv_isub dd_Row_hasRoomFor_22 ?_
  exact kv_icmp_gt 30 dd_Row_hasRoomFor_23 (by decide) (fun h => kv_loc [0, 1] rfl (Kt h)) (fun h => kv_loc [0, 1] rfl (Kf h))
theorem bl_Row_hasRoomFor_26 {d : Nat} {B : kv_B} {Q : kv_Q} {kc ks n : Nat} {S : kv_SM} {I : kv_IM} {a0 : Nat} {v1 : Int32} (K : kv_V y_Row_hasRoomFor d B Q kc ks n S I 31 [(0, .ref a0), (1, .int v1)] [.int 1]) : kv_V y_Row_hasRoomFor d B Q kc ks n S I 26 [(0, .ref a0), (1, .int v1)] [] := by
  refine kv_iconst (v := 1) dd_Row_hasRoomFor_26 (by decide) ?_
  refine kv_goto 31 dd_Row_hasRoomFor_27 (by decide) ?_
  exact kv_loc [0, 1] rfl K
theorem bl_Row_hasRoomFor_30 {d : Nat} {B : kv_B} {Q : kv_Q} {kc ks n : Nat} {S : kv_SM} {I : kv_IM} {a0 : Nat} {v1 : Int32} (K : kv_V y_Row_hasRoomFor d B Q kc ks n S I 31 [(0, .ref a0), (1, .int v1)] [.int 0]) : kv_V y_Row_hasRoomFor d B Q kc ks n S I 30 [(0, .ref a0), (1, .int v1)] [] := by
  refine kv_iconst (v := 0) dd_Row_hasRoomFor_30 (by decide) ?_
  exact kv_loc [0, 1] rfl K
theorem bl_Row_hasRoomFor_31 {d : Nat} {B : kv_B} {Q : kv_Q} {kc ks n : Nat} {S : kv_SM} {I : kv_IM} {a0 : Nat} {v1 : Int32} {t0 : Int32} (hb : narrow .boolean (.int t0) = .int t0) (hQ : Q (some (.int t0)) n S I) : kv_V y_Row_hasRoomFor d B Q kc ks n S I 31 [(0, .ref a0), (1, .int v1)] [.int t0] := by
  exact kv_end (v := some (.int t0)) hQ ⟨dd_Row_hasRoomFor_31, .boolean, rfl, hb⟩
theorem bl_Sto_sweep_0 {d : Nat} {B : kv_B} {Q : kv_Q} {kc ks n : Nat} {S : kv_SM} {I : kv_IM} {a0 : Nat} {r1 : Nat → Option Nat} {q2 : Nat} {dc kcc ksc : Nat} {Qy : kv_Q} {r3 : Nat → Option Nat} (hO1 : S a0 = kO 3 r1) (hr2 : r1 0 = some q2) (hO3 : S q2 = kO 0 r3) (hM : kv_T y_Row_end dc kcc ksc B [.ref q2] n S I Qy) (hdp : dc + 1 ≤ d) (hkk : kcc ≤ kc) (hkl : ksc ≤ ks) (K : ∀ v n' S' I', Qy v n' S' I' → kv_V y_Sto_sweep d B Q (kc - kcc) (ks - ksc) n' S' I' 7 [(0, .ref a0)] (v.toList ++ [])) : kv_V y_Sto_sweep d B Q kc ks n S I 0 [(0, .ref a0)] [] := by
  refine kv_aload_n dd_Sto_sweep_0 rfl ?_
  refine kv_getR fl_Sto_14 dd_Sto_sweep_1 hO1 hr2 ?_
  exact kv_callV [] [] ls_Sto_68 hO3 hM dd_Sto_sweep_4 rfl hdp (Nat.le_of_ble_eq_true rfl) hkk hkl (fun v n' S' I' hv => kv_loc [0] rfl (K v n' S' I' hv))
theorem bl_Sto_sweep_7 {d : Nat} {B : kv_B} {Q : kv_Q} {kc ks n : Nat} {S : kv_SM} {I : kv_IM} {a0 : Nat} {t0 : Int32} {r1 : Nat → Option Nat} {q2 : Nat} {r3 : Nat → Option Nat} {dc kcc ksc : Nat} {Qy : kv_Q} (hO1 : S a0 = kO 3 r1) (hr2 : r1 0 = some q2) (hO3 : S q2 = kO 0 r3) (hM : kv_T y_Row_unchain dc kcc ksc B [.ref q2] n S (kv_up I q2 5 0) Qy) (hdp : dc + 1 ≤ d) (hkk : kcc ≤ kc) (hkl : ksc ≤ ks) (K : ∀ v n' S' I', Qy v n' S' I' → kv_V y_Sto_sweep d B Q (kc - kcc) (ks - ksc) n' S' I' 31 [(0, .ref a0), (1, .int t0), (2, .int (I q2 5))] (v.toList ++ [])) : kv_V y_Sto_sweep d B Q kc ks n S I 7 [(0, .ref a0)] [.int t0] := by
  refine kv_istore_n (L' := [(1, .int t0), (0, .ref a0)]) dd_Sto_sweep_7 (by decide) rfl ?_
  refine kv_aload_n dd_Sto_sweep_8 rfl ?_
  refine kv_getR fl_Sto_14 dd_Sto_sweep_9 hO1 hr2 ?_
  refine kv_getI fl_Sto_42 dd_Sto_sweep_12 hO3 ?_
  refine kv_istore_n (L' := [(2, .int (I q2 5)), (1, .int t0), (0, .ref a0)]) dd_Sto_sweep_15 (by decide) rfl ?_
  refine kv_aload_n dd_Sto_sweep_16 rfl ?_
  refine kv_getR fl_Sto_14 dd_Sto_sweep_17 hO1 hr2 ?_
  refine kv_iconst (v := 0) dd_Sto_sweep_20 (by decide) ?_
  refine kv_putI fp_Sto_42 (fun h => by cases h) dd_Sto_sweep_21 hO3 rfl rfl ?_
  refine kv_aload_n dd_Sto_sweep_24 rfl ?_
  refine kv_getR fl_Sto_14 dd_Sto_sweep_25 hO1 hr2 ?_
  exact kv_callV [] [] ls_Sto_100 hO3 hM dd_Sto_sweep_28 rfl hdp (Nat.le_of_ble_eq_true rfl) hkk hkl (fun v n' S' I' hv => kv_loc [2, 1, 0] rfl (K v n' S' I' hv))
theorem bl_Sto_sweep_31 {d : Nat} {B : kv_B} {Q : kv_Q} {kc ks n : Nat} {S : kv_SM} {I : kv_IM} {a0 : Nat} {v1 : Int32} {v2 : Int32} (K : kv_V y_Sto_sweep d B Q kc ks n S I 33 [(0, .ref a0), (1, .int v1), (2, .int v2), (3, .int 0)] []) : kv_V y_Sto_sweep d B Q kc ks n S I 31 [(0, .ref a0), (1, .int v1), (2, .int v2)] [] := by
  refine kv_iconst (v := 0) dd_Sto_sweep_31 (by decide) ?_
  refine kv_istore_n (L' := [(3, .int 0), (0, .ref a0), (1, .int v1), (2, .int v2)]) dd_Sto_sweep_32 (by decide) rfl ?_
  exact kv_loc [1, 2, 3, 0] rfl K
theorem bl_Sto_sweep_33 {d : Nat} {B : kv_B} {Q : kv_Q} {kc ks n : Nat} {S : kv_SM} {I : kv_IM} {a0 : Nat} {v1 : Int32} {v2 : Int32} {v3 : Int32} (Kt : v2 ≤ v3 → kv_V y_Sto_sweep d B Q kc ks n S I 96 [(0, .ref a0), (1, .int v1), (2, .int v2), (3, .int v3)] []) (Kf : ¬ v2 ≤ v3 → kv_V y_Sto_sweep d B Q kc ks n S I 38 [(0, .ref a0), (1, .int v1), (2, .int v2), (3, .int v3)] []) : kv_V y_Sto_sweep d B Q kc ks n S I 33 [(0, .ref a0), (1, .int v1), (2, .int v2), (3, .int v3)] [] := by
  refine kv_iload_n dd_Sto_sweep_33 rfl ?_
  refine kv_iload_n dd_Sto_sweep_34 rfl ?_
  exact kv_icmp_ge 96 dd_Sto_sweep_35 (by decide) (fun h => kv_loc [0, 1, 2, 3] rfl (Kt h)) (fun h => kv_loc [0, 1, 2, 3] rfl (Kf h))
theorem bl_Sto_sweep_38 {d : Nat} {B : kv_B} {Q : kv_Q} {kc ks n : Nat} {S : kv_SM} {I : kv_IM} {a0 : Nat} {v1 : Int32} {v2 : Int32} {v3 : Int32} {r1 : Nat → Option Nat} {q2 : Nat} {m3 : Nat} {j4 : Nat} (hO1 : S a0 = kO 3 r1) (hr2 : r1 1 = some q2) (hA3 : S q2 = kI m3) (hi4 : v3 = nI j4 ∧ j4 < m3 ∧ m3 < 2 ^ 31) (Kt : (I q2 j4) ≤ 0 → kv_V y_Sto_sweep d B Q kc ks n S I 90 [(0, .ref a0), (1, .int v1), (2, .int v2), (3, .int v3)] []) (Kf : ¬ (I q2 j4) ≤ 0 → kv_V y_Sto_sweep d B Q kc ks n S I 47 [(0, .ref a0), (1, .int v1), (2, .int v2), (3, .int v3)] []) : kv_V y_Sto_sweep d B Q kc ks n S I 38 [(0, .ref a0), (1, .int v1), (2, .int v2), (3, .int v3)] [] := by
  refine kv_aload_n dd_Sto_sweep_38 rfl ?_
  refine kv_getR fl_Sto_20 dd_Sto_sweep_39 hO1 hr2 ?_
  refine kv_iload_n dd_Sto_sweep_42 rfl ?_
  refine kv_iald j4 dd_Sto_sweep_43 hA3 hi4.1 hi4.2.1 hi4.2.2 ?_
  exact kv_if_le 90 dd_Sto_sweep_44 (by decide) (fun h => kv_loc [0, 1, 2, 3] rfl (Kt h)) (fun h => kv_loc [0, 1, 2, 3] rfl (Kf h))
theorem bl_Sto_sweep_47 {d : Nat} {B : kv_B} {Q : kv_Q} {kc ks n : Nat} {S : kv_SM} {I : kv_IM} {a0 : Nat} {v1 : Int32} {v2 : Int32} {v3 : Int32} {r1 : Nat → Option Nat} {q2 : Nat} {q3 : Nat} {r4 : Nat → Option Nat} {m5 : Nat} {j6 : Nat} {q7 : Nat} {m8 : Nat} {j9 : Nat} {j10 : Nat} {dc kcc ksc : Nat} {Qy : kv_Q} (hO1 : S a0 = kO 3 r1) (hr2 : r1 2 = some q2) (hr3 : r1 0 = some q3) (hO4 : S q3 = kO 0 r4) (hA5 : S q2 = kI m5) (hi6 : v3 = nI j6 ∧ j6 < m5 ∧ m5 < 2 ^ 31) (hr7 : r1 1 = some q7) (hA8 : S q7 = kI m8) (hi9 : v3 = nI j9 ∧ j9 < m8 ∧ m8 < 2 ^ 31) (hi10 : (kv_up I q2 j6 (I q3 5)) q3 5 = nI j10 ∧ j10 < m8 ∧ m8 < 2 ^ 31) (hM : kv_T y_Row_append dc kcc ksc B [.ref q3, .ref q3, .int v3] n S (kv_up (kv_up I q2 j6 (I q3 5)) q7 j10 ((kv_up I q2 j6 (I q3 5)) q7 j9)) Qy) (hdp : dc + 1 ≤ d) (hkk : kcc ≤ kc) (hkl : ksc ≤ ks) (K : ∀ v n' S' I', Qy v n' S' I' → kv_V y_Sto_sweep d B Q (kc - kcc) (ks - ksc) n' S' I' 90 [(0, .ref a0), (1, .int v1), (2, .int v2), (3, .int v3)] (v.toList ++ [])) : kv_V y_Sto_sweep d B Q kc ks n S I 47 [(0, .ref a0), (1, .int v1), (2, .int v2), (3, .int v3)] [] := by
  refine kv_aload_n dd_Sto_sweep_47 rfl ?_
  refine kv_getR fl_Sto_24 dd_Sto_sweep_48 hO1 hr2 ?_
  refine kv_iload_n dd_Sto_sweep_51 rfl ?_
  refine kv_aload_n dd_Sto_sweep_52 rfl ?_
  refine kv_getR fl_Sto_14 dd_Sto_sweep_53 hO1 hr3 ?_
  refine kv_getI fl_Sto_42 dd_Sto_sweep_56 hO4 ?_
  refine kv_iast j6 dd_Sto_sweep_59 hA5 hi6.1 hi6.2.1 hi6.2.2 ?_
  refine kv_aload_n dd_Sto_sweep_60 rfl ?_
  refine kv_getR fl_Sto_20 dd_Sto_sweep_61 hO1 hr7 ?_
  refine kv_aload_n dd_Sto_sweep_64 rfl ?_
  refine kv_getR fl_Sto_14 dd_Sto_sweep_65 hO1 hr3 ?_
  refine kv_getI fl_Sto_42 dd_Sto_sweep_68 hO4 ?_
  refine kv_aload_n dd_Sto_sweep_71 rfl ?_
  refine kv_getR fl_Sto_20 dd_Sto_sweep_72 hO1 hr7 ?_
  refine kv_iload_n dd_Sto_sweep_75 rfl ?_
  refine kv_iald j9 dd_Sto_sweep_76 hA8 hi9.1 hi9.2.1 hi9.2.2 ?_
  refine kv_iast j10 dd_Sto_sweep_77 hA8 hi10.1 hi10.2.1 hi10.2.2 ?_
  refine kv_aload_n dd_Sto_sweep_78 rfl ?_
  refine kv_getR fl_Sto_14 dd_Sto_sweep_79 hO1 hr3 ?_
  refine kv_aload_n dd_Sto_sweep_82 rfl ?_
  refine kv_getR fl_Sto_14 dd_Sto_sweep_83 hO1 hr3 ?_
  refine kv_iload_n dd_Sto_sweep_86 rfl ?_
  exact kv_callV [.ref q3, .int v3] [] ls_Sto_96 hO4 hM dd_Sto_sweep_87 rfl hdp (Nat.le_of_ble_eq_true rfl) hkk hkl (fun v n' S' I' hv => kv_loc [0, 1, 2, 3] rfl (K v n' S' I' hv))
theorem bl_Sto_sweep_90 {d : Nat} {B : kv_B} {Q : kv_Q} {kc ks n : Nat} {S : kv_SM} {I : kv_IM} {a0 : Nat} {v1 : Int32} {v2 : Int32} {v3 : Int32} (K : kv_V y_Sto_sweep d B Q kc ks n S I 33 [(0, .ref a0), (1, .int v1), (2, .int v2), (3, .int (v3 + 1))] []) : kv_V y_Sto_sweep d B Q kc ks n S I 90 [(0, .ref a0), (1, .int v1), (2, .int v2), (3, .int v3)] [] := by
  refine kv_iinc (v := v3 + 1) (L' := [(3, .int (v3 + 1)), (0, .ref a0), (1, .int v1), (2, .int v2)]) dd_Sto_sweep_90 rfl rfl (by decide) rfl ?_
  refine kv_goto 33 dd_Sto_sweep_93 (by decide) ?_
  exact kv_loc [1, 2, 3, 0] rfl K
theorem bl_Sto_sweep_96 {d : Nat} {B : kv_B} {Q : kv_Q} {kc ks n : Nat} {S : kv_SM} {I : kv_IM} {a0 : Nat} {v1 : Int32} {v2 : Int32} {v3 : Int32} {dc kcc ksc : Nat} {Qy : kv_Q} {r1 : Nat → Option Nat} (hO1 : S a0 = kO 3 r1) (hM : kv_T y_Sto_renumber dc kcc ksc B [.ref a0] n S I Qy) (hdp : dc + 1 ≤ d) (hkk : kcc ≤ kc) (hkl : ksc ≤ ks) (K : ∀ v n' S' I', Qy v n' S' I' → kv_V y_Sto_sweep d B Q (kc - kcc) (ks - ksc) n' S' I' 100 [(0, .ref a0), (1, .int v1), (2, .int v2), (3, .int v3)] (v.toList ++ [])) : kv_V y_Sto_sweep d B Q kc ks n S I 96 [(0, .ref a0), (1, .int v1), (2, .int v2), (3, .int v3)] [] := by
  refine kv_aload_n dd_Sto_sweep_96 rfl ?_
  exact kv_callV [] [] ls_Sto_103 hO1 hM dd_Sto_sweep_97 rfl hdp (Nat.le_of_ble_eq_true rfl) hkk hkl (fun v n' S' I' hv => kv_loc [0, 1, 2, 3] rfl (K v n' S' I' hv))
theorem bl_Sto_sweep_100 {d : Nat} {B : kv_B} {Q : kv_Q} {kc ks n : Nat} {S : kv_SM} {I : kv_IM} {a0 : Nat} {v1 : Int32} {v2 : Int32} {v3 : Int32} {r1 : Nat → Option Nat} {q2 : Nat} {dc kcc ksc : Nat} {Qy : kv_Q} {r3 : Nat → Option Nat} (hO1 : S a0 = kO 3 r1) (hr2 : r1 0 = some q2) (hO3 : S q2 = kO 0 r3) (hM : kv_T y_Row_end dc kcc ksc B [.ref q2] n S I Qy) (hdp : dc + 1 ≤ d) (hkk : kcc ≤ kc) (hkl : ksc ≤ ks) (K : ∀ v n' S' I', Qy v n' S' I' → kv_V y_Sto_sweep d B Q (kc - kcc) (ks - ksc) n' S' I' 108 [(0, .ref a0), (1, .int v1), (2, .int v2), (3, .int v3)] (v.toList ++ [.int v1])) : kv_V y_Sto_sweep d B Q kc ks n S I 100 [(0, .ref a0), (1, .int v1), (2, .int v2), (3, .int v3)] [] := by
  refine kv_iload_n dd_Sto_sweep_100 rfl ?_
  refine kv_aload_n dd_Sto_sweep_101 rfl ?_
  refine kv_getR fl_Sto_14 dd_Sto_sweep_102 hO1 hr2 ?_
  exact kv_callV [] [.int v1] ls_Sto_68 hO3 hM dd_Sto_sweep_105 rfl hdp (Nat.le_of_ble_eq_true rfl) hkk hkl (fun v n' S' I' hv => kv_loc [0, 1, 2, 3] rfl (K v n' S' I' hv))
theorem bl_Sto_sweep_108 {d : Nat} {B : kv_B} {Q : kv_Q} {kc ks n : Nat} {S : kv_SM} {I : kv_IM} {a0 : Nat} {v1 : Int32} {v2 : Int32} {v3 : Int32} {t0 : Int32} {t1 : Int32} (hQ : Q (some (.int (t1 - t0))) n S I) : kv_V y_Sto_sweep d B Q kc ks n S I 108 [(0, .ref a0), (1, .int v1), (2, .int v2), (3, .int v3)] [.int t0, .int t1] := by
  refine kv_isub dd_Sto_sweep_108 ?_
  exact kv_end (v := some (.int (t1 - t0))) hQ ⟨dd_Sto_sweep_109, .int, rfl, rfl⟩
theorem bl_Row_append_0 {d : Nat} {B : kv_B} {Q : kv_Q} {kc ks n : Nat} {S : kv_SM} {I : kv_IM} {a0 : Nat} {a1 : Nat} {v2 : Int32} {dc kcc ksc : Nat} {Qy : kv_Q} {r1 : Nat → Option Nat} (hO1 : S a1 = kO 0 r1) (hM : kv_T y_Row_bytesOf dc kcc ksc B [.ref a1, .int v2] n S I Qy) (hdp : dc + 1 ≤ d) (hkk : kcc ≤ kc) (hkl : ksc ≤ ks) (K : ∀ v n' S' I', Qy v n' S' I' → kv_V y_Row_append d B Q (kc - kcc) (ks - ksc) n' S' I' 5 [(0, .ref a0), (1, .ref a1), (2, .int v2)] (v.toList ++ [])) : kv_V y_Row_append d B Q kc ks n S I 0 [(0, .ref a0), (1, .ref a1), (2, .int v2)] [] := by
  refine kv_aload_n dd_Row_append_0 rfl ?_
  refine kv_iload_n dd_Row_append_1 rfl ?_
  exact kv_callV [.int v2] [] ls_Row_61 hO1 hM dd_Row_append_2 rfl hdp (Nat.le_of_ble_eq_true rfl) hkk hkl (fun v n' S' I' hv => kv_loc [0, 1, 2] rfl (K v n' S' I' hv))
theorem bl_Row_append_5 {d : Nat} {B : kv_B} {Q : kv_Q} {kc ks n : Nat} {S : kv_SM} {I : kv_IM} {a0 : Nat} {a1 : Nat} {v2 : Int32} {t0 : Int32} {r1 : Nat → Option Nat} {q2 : Nat} {q3 : Nat} {m4 : Nat} {j5 : Nat} {r6 : Nat → Option Nat} {q7 : Nat} {dc kcc ksc : Nat} {Qy : kv_Q} (hO1 : S a1 = kO 0 r1) (hr2 : r1 0 = some q2) (hr3 : r1 1 = some q3) (hA4 : S q3 = kI m4) (hi5 : v2 = nI j5 ∧ j5 < m4 ∧ m4 < 2 ^ 31) (hO6 : S a0 = kO 0 r6) (hr7 : r6 0 = some q7) (hM : kv_T y_Row_end dc kcc ksc B [.ref a0] n S I Qy) (hdp : dc + 1 ≤ d) (hkk : kcc ≤ kc) (hkl : ksc ≤ ks) (K : ∀ v n' S' I', Qy v n' S' I' → kv_V y_Row_append d B Q (kc - kcc) (ks - ksc) n' S' I' 24 [(0, .ref a0), (1, .ref a1), (2, .int v2), (3, .int t0)] (v.toList ++ [.ref q7, .int (I q3 j5), .ref q2])) : kv_V y_Row_append d B Q kc ks n S I 5 [(0, .ref a0), (1, .ref a1), (2, .int v2)] [.int t0] := by
  refine kv_istore_n (L' := [(3, .int t0), (0, .ref a0), (1, .ref a1), (2, .int v2)]) dd_Row_append_5 (by decide) rfl ?_
  refine kv_aload_n dd_Row_append_6 rfl ?_
  refine kv_getR fl_Row_9 dd_Row_append_7 hO1 hr2 ?_
  refine kv_aload_n dd_Row_append_10 rfl ?_
  refine kv_getR fl_Row_15 dd_Row_append_11 hO1 hr3 ?_
  refine kv_iload_n dd_Row_append_14 rfl ?_
  refine kv_iald j5 dd_Row_append_15 hA4 hi5.1 hi5.2.1 hi5.2.2 ?_
  refine kv_aload_n dd_Row_append_16 rfl ?_
  refine kv_getR fl_Row_9 dd_Row_append_17 hO6 hr7 ?_
  refine kv_aload_n dd_Row_append_20 rfl ?_
  exact kv_callV [] [.ref q7, .int (I q3 j5), .ref q2] ls_Row_70 hO6 hM dd_Row_append_21 rfl hdp (Nat.le_of_ble_eq_true rfl) hkk hkl (fun v n' S' I' hv => kv_loc [1, 2, 3, 0] rfl (K v n' S' I' hv))
theorem bl_Row_append_24 {d : Nat} {B : kv_B} {Q : kv_Q} {kc ks n : Nat} {S : kv_SM} {I : kv_IM} {a0 : Nat} {a1 : Nat} {v2 : Int32} {v3 : Int32} {t0 : Int32} {t1 : Nat} {t2 : Int32} {t3 : Nat} {m1 : Nat} {m2 : Nat} {sp3 dp3 N3 : Nat} {r4 : Nat → Option Nat} {q5 : Nat} {r6 : Nat → Option Nat} {q7 : Nat} {m8 : Nat} {j9 : Nat} {m10 : Nat} {j11 : Nat} {dc kcc ksc : Nat} {Qy : kv_Q} (hd1 : 1 ≤ d) (hA1 : S t3 = kI m1) (hA2 : S t1 = kI m2) (hc3 : (0 < m1 ∧ 0 < m2 ∧ m1 < 2 ^ 30 ∧ m2 < 2 ^ 30) ∧ (t2 = nI sp3 ∧ t0 = nI dp3 ∧ v3 = nI N3) ∧ sp3 + N3 ≤ m1 ∧ dp3 + N3 ≤ m2) (hO4 : S a0 = kO 0 r4) (hr5 : r4 2 = some q5) (hO6 : S a1 = kO 0 r6) (hr7 : r6 2 = some q7) (hA8 : S q7 = kI m8) (hi9 : v2 = nI j9 ∧ j9 < m8 ∧ m8 < 2 ^ 31) (hA10 : S q5 = kI m10) (hi11 : (kv_cp I t3 t1 sp3 dp3 N3) a0 5 = nI j11 ∧ j11 < m10 ∧ m10 < 2 ^ 31) (hM : kv_T y_Row_chain dc kcc ksc B [.ref a0, .int ((kv_up (kv_cp I t3 t1 sp3 dp3 N3) q5 j11 ((kv_cp I t3 t1 sp3 dp3 N3) q7 j9)) a0 5)] n S (kv_up (kv_cp I t3 t1 sp3 dp3 N3) q5 j11 ((kv_cp I t3 t1 sp3 dp3 N3) q7 j9)) Qy) (hdp : dc + 1 ≤ d) (hkk : kcc ≤ kc) (hkl : ksc ≤ ks) (K : ∀ v n' S' I', Qy v n' S' I' → kv_V y_Row_append d B Q (kc - kcc) (ks - ksc) n' S' I' 51 [(0, .ref a0), (1, .ref a1), (2, .int v2), (3, .int v3)] (v.toList ++ [])) : kv_V y_Row_append d B Q kc ks n S I 24 [(0, .ref a0), (1, .ref a1), (2, .int v2), (3, .int v3)] [.int t0, .ref t1, .int t2, .ref t3] := by
  refine kv_iload_n dd_Row_append_24 rfl ?_
  refine kv_copy sp3 dp3 N3 wm_Row_74 wy_n wy_s wi_java_lang_System dd_Row_append_25 hd1 (Nat.le_of_ble_eq_true rfl) hA1 hA2 hc3.1.1 hc3.1.2.1 hc3.1.2.2.1 hc3.1.2.2.2 hc3.2.1.1 hc3.2.1.2.1 hc3.2.1.2.2 hc3.2.2.1 hc3.2.2.2 ?_
  refine kv_aload_n dd_Row_append_28 rfl ?_
  refine kv_getR fl_Row_18 dd_Row_append_29 hO4 hr5 ?_
  refine kv_aload_n dd_Row_append_32 rfl ?_
  refine kv_getI fl_Row_30 dd_Row_append_33 hO4 ?_
  refine kv_aload_n dd_Row_append_36 rfl ?_
  refine kv_getR fl_Row_18 dd_Row_append_37 hO6 hr7 ?_
  refine kv_iload_n dd_Row_append_40 rfl ?_
  refine kv_iald j9 dd_Row_append_41 hA8 hi9.1 hi9.2.1 hi9.2.2 ?_
  refine kv_iast j11 dd_Row_append_42 hA10 hi11.1 hi11.2.1 hi11.2.2 ?_
  refine kv_aload_n dd_Row_append_43 rfl ?_
  refine kv_aload_n dd_Row_append_44 rfl ?_
  refine kv_getI fl_Row_30 dd_Row_append_45 hO4 ?_
  exact kv_callV [.int ((kv_up (kv_cp I t3 t1 sp3 dp3 N3) q5 j11 ((kv_cp I t3 t1 sp3 dp3 N3) q7 j9)) a0 5)] [] ls_Row_53 hO4 hM dd_Row_append_48 rfl hdp (Nat.le_of_ble_eq_true rfl) hkk hkl (fun v n' S' I' hv => kv_loc [0, 1, 2, 3] rfl (K v n' S' I' hv))
theorem bl_Row_append_51 {d : Nat} {B : kv_B} {Q : kv_Q} {kc ks n : Nat} {S : kv_SM} {I : kv_IM} {a0 : Nat} {a1 : Nat} {v2 : Int32} {v3 : Int32} {dc kcc ksc : Nat} {Qy : kv_Q} {r1 : Nat → Option Nat} (hO1 : S a0 = kO 0 r1) (hM : kv_T y_Row_end dc kcc ksc B [.ref a0] n S I Qy) (hdp : dc + 1 ≤ d) (hkk : kcc ≤ kc) (hkl : ksc ≤ ks) (K : ∀ v n' S' I', Qy v n' S' I' → kv_V y_Row_append d B Q (kc - kcc) (ks - ksc) n' S' I' 56 [(0, .ref a0), (1, .ref a1), (2, .int v2), (3, .int v3)] (v.toList ++ [.ref a0])) : kv_V y_Row_append d B Q kc ks n S I 51 [(0, .ref a0), (1, .ref a1), (2, .int v2), (3, .int v3)] [] := by
  refine kv_aload_n dd_Row_append_51 rfl ?_
  refine kv_aload_n dd_Row_append_52 rfl ?_
  exact kv_callV [] [.ref a0] ls_Row_70 hO1 hM dd_Row_append_53 rfl hdp (Nat.le_of_ble_eq_true rfl) hkk hkl (fun v n' S' I' hv => kv_loc [0, 1, 2, 3] rfl (K v n' S' I' hv))
theorem bl_Row_append_56 {d : Nat} {B : kv_B} {Q : kv_Q} {kc ks n : Nat} {S : kv_SM} {I : kv_IM} {a0 : Nat} {a1 : Nat} {v2 : Int32} {v3 : Int32} {t0 : Int32} {t1 : Nat} {dc kcc ksc : Nat} {Qy : kv_Q} {r1 : Nat → Option Nat} (hO1 : S t1 = kO 0 r1) (hM : kv_T y_Row_close dc kcc ksc B [.ref t1, .int (t0 + v3)] n S I Qy) (hdp : dc + 1 ≤ d) (hkk : kcc ≤ kc) (hkl : ksc ≤ ks) (K : ∀ v n' S' I', Qy v n' S' I' → kv_V y_Row_append d B Q (kc - kcc) (ks - ksc) n' S' I' 61 [(0, .ref a0), (1, .ref a1), (2, .int v2), (3, .int v3)] (v.toList ++ [])) : kv_V y_Row_append d B Q kc ks n S I 56 [(0, .ref a0), (1, .ref a1), (2, .int v2), (3, .int v3)] [.int t0, .ref t1] := by
  refine kv_iload_n dd_Row_append_56 rfl ?_
  refine kv_iadd dd_Row_append_57 ?_
  exact kv_callV [.int (t0 + v3)] [] ls_Row_80 hO1 hM dd_Row_append_58 rfl hdp (Nat.le_of_ble_eq_true rfl) hkk hkl (fun v n' S' I' hv => kv_loc [0, 1, 2, 3] rfl (K v n' S' I' hv))
theorem bl_Row_append_61 {d : Nat} {B : kv_B} {Q : kv_Q} {kc ks n : Nat} {S : kv_SM} {I : kv_IM} {a0 : Nat} {a1 : Nat} {v2 : Int32} {v3 : Int32} (hQ : Q (none) n S I) : kv_V y_Row_append d B Q kc ks n S I 61 [(0, .ref a0), (1, .ref a1), (2, .int v2), (3, .int v3)] [] := by
  exact kv_end (v := none) hQ ⟨dd_Row_append_61, rfl⟩
theorem bl_Sto_renumber_0 {d : Nat} {B : kv_B} {Q : kv_Q} {kc ks n : Nat} {S : kv_SM} {I : kv_IM} {a0 : Nat} (K : kv_V y_Sto_renumber d B Q kc ks n S I 2 [(0, .ref a0), (1, .int 0)] []) : kv_V y_Sto_renumber d B Q kc ks n S I 0 [(0, .ref a0)] [] := by
  refine kv_iconst (v := 0) dd_Sto_renumber_0 (by decide) ?_
  refine kv_istore_n (L' := [(1, .int 0), (0, .ref a0)]) dd_Sto_renumber_1 (by decide) rfl ?_
  exact kv_loc [1, 0] rfl K
theorem bl_Sto_renumber_2 {d : Nat} {B : kv_B} {Q : kv_Q} {kc ks n : Nat} {S : kv_SM} {I : kv_IM} {a0 : Nat} {v1 : Int32} (Kt : 10 ≤ v1 → kv_V y_Sto_renumber d B Q kc ks n S I 61 [(0, .ref a0), (1, .int v1)] []) (Kf : ¬ 10 ≤ v1 → kv_V y_Sto_renumber d B Q kc ks n S I 8 [(0, .ref a0), (1, .int v1)] []) : kv_V y_Sto_renumber d B Q kc ks n S I 2 [(0, .ref a0), (1, .int v1)] [] := by
  refine kv_iload_n dd_Sto_renumber_2 rfl ?_
  refine kv_bipush (v := 10) dd_Sto_renumber_3 (by decide) ?_
  exact kv_icmp_ge 61 dd_Sto_renumber_5 (by decide) (fun h => kv_loc [0, 1] rfl (Kt h)) (fun h => kv_loc [0, 1] rfl (Kf h))
theorem bl_Sto_renumber_8 {d : Nat} {B : kv_B} {Q : kv_Q} {kc ks n : Nat} {S : kv_SM} {I : kv_IM} {a0 : Nat} {v1 : Int32} {r1 : Nat → Option Nat} {q2 : Nat} {m3 : Nat} {r3 : Nat → Option Nat} {j4 : Nat} {q5 : Nat} (hO1 : S a0 = kO 3 r1) (hr2 : r1 3 = some q2) (hA3 : S q2 = kA 2 m3 r3) (hi4 : v1 = nI j4 ∧ j4 < m3 ∧ m3 < 2 ^ 31) (he5 : r3 j4 = some q5) (K : kv_V y_Sto_renumber d B Q kc ks n S I 17 [(0, .ref a0), (1, .int v1), (2, .ref q5), (3, .int 0)] []) : kv_V y_Sto_renumber d B Q kc ks n S I 8 [(0, .ref a0), (1, .int v1)] [] := by
  refine kv_aload_n dd_Sto_renumber_8 rfl ?_
  refine kv_getR fl_Sto_29 dd_Sto_renumber_9 hO1 hr2 ?_
  refine kv_iload_n dd_Sto_renumber_12 rfl ?_
  refine kv_aald j4 dd_Sto_renumber_13 hA3 ⟨3, _, fun _ => rfl⟩ hi4.1 hi4.2.1 hi4.2.2 he5 ?_
  refine kv_astore_n (L' := [(2, .ref q5), (0, .ref a0), (1, .int v1)]) dd_Sto_renumber_14 (by decide) rfl ?_
  refine kv_iconst (v := 0) dd_Sto_renumber_15 (by decide) ?_
  refine kv_istore_n (L' := [(3, .int 0), (2, .ref q5), (0, .ref a0), (1, .int v1)]) dd_Sto_renumber_16 (by decide) rfl ?_
  exact kv_loc [2, 3, 1, 0] rfl K
theorem bl_Sto_renumber_17 {d : Nat} {B : kv_B} {Q : kv_Q} {kc ks n : Nat} {S : kv_SM} {I : kv_IM} {a0 : Nat} {v1 : Int32} {a2 : Nat} {v3 : Int32} {r1 : Nat → Option Nat} (hO1 : S a2 = kO 2 r1) (Kt : (I a2 3) = 0 → kv_V y_Sto_renumber d B Q kc ks n S I 55 [(0, .ref a0), (1, .int v1), (2, .ref a2), (3, .int v3)] []) (Kf : ¬ (I a2 3) = 0 → kv_V y_Sto_renumber d B Q kc ks n S I 24 [(0, .ref a0), (1, .int v1), (2, .ref a2), (3, .int v3)] []) : kv_V y_Sto_renumber d B Q kc ks n S I 17 [(0, .ref a0), (1, .int v1), (2, .ref a2), (3, .int v3)] [] := by
  refine kv_aload_n dd_Sto_renumber_17 rfl ?_
  refine kv_getI fl_Sto_34 dd_Sto_renumber_18 hO1 ?_
  exact kv_if_eq 55 dd_Sto_renumber_21 (by decide) (fun h => kv_loc [0, 1, 2, 3] rfl (Kt h)) (fun h => kv_loc [0, 1, 2, 3] rfl (Kf h))
theorem bl_Sto_renumber_24 {d : Nat} {B : kv_B} {Q : kv_Q} {kc ks n : Nat} {S : kv_SM} {I : kv_IM} {a0 : Nat} {v1 : Int32} {a2 : Nat} {v3 : Int32} {r1 : Nat → Option Nat} (hO1 : S a2 = kO 2 r1) (Kt : (I a2 1) ≤ v3 → kv_V y_Sto_renumber d B Q kc ks n S I 55 [(0, .ref a0), (1, .int v1), (2, .ref a2), (3, .int v3)] []) (Kf : ¬ (I a2 1) ≤ v3 → kv_V y_Sto_renumber d B Q kc ks n S I 32 [(0, .ref a0), (1, .int v1), (2, .ref a2), (3, .int v3)] []) : kv_V y_Sto_renumber d B Q kc ks n S I 24 [(0, .ref a0), (1, .int v1), (2, .ref a2), (3, .int v3)] [] := by
  refine kv_iload_n dd_Sto_renumber_24 rfl ?_
  refine kv_aload_n dd_Sto_renumber_25 rfl ?_
  refine kv_getI fl_Sto_67 dd_Sto_renumber_26 hO1 ?_
  exact kv_icmp_ge 55 dd_Sto_renumber_29 (by decide) (fun h => kv_loc [0, 1, 2, 3] rfl (Kt h)) (fun h => kv_loc [0, 1, 2, 3] rfl (Kf h))
theorem bl_Sto_renumber_32 {d : Nat} {B : kv_B} {Q : kv_Q} {kc ks n : Nat} {S : kv_SM} {I : kv_IM} {a0 : Nat} {v1 : Int32} {a2 : Nat} {v3 : Int32} {r1 : Nat → Option Nat} {q2 : Nat} {r3 : Nat → Option Nat} {q4 : Nat} {m5 : Nat} {j6 : Nat} {m7 : Nat} {j8 : Nat} (hO1 : S a2 = kO 2 r1) (hr2 : r1 0 = some q2) (hO3 : S a0 = kO 3 r3) (hr4 : r3 2 = some q4) (hA5 : S q2 = kI m5) (hi6 : v3 = nI j6 ∧ j6 < m5 ∧ m5 < 2 ^ 31) (hA7 : S q4 = kI m7) (hi8 : I q2 j6 = nI j8 ∧ j8 < m7 ∧ m7 < 2 ^ 31) (K : kv_V y_Sto_renumber d B Q kc ks n S (kv_up I q2 j6 (I q4 j8)) 17 [(0, .ref a0), (1, .int v1), (2, .ref a2), (3, .int (v3 + 1))] []) : kv_V y_Sto_renumber d B Q kc ks n S I 32 [(0, .ref a0), (1, .int v1), (2, .ref a2), (3, .int v3)] [] := by
  refine kv_aload_n dd_Sto_renumber_32 rfl ?_
  refine kv_getR fl_Sto_61 dd_Sto_renumber_33 hO1 hr2 ?_
  refine kv_iload_n dd_Sto_renumber_36 rfl ?_
  refine kv_aload_n dd_Sto_renumber_37 rfl ?_
  refine kv_getR fl_Sto_24 dd_Sto_renumber_38 hO3 hr4 ?_
  refine kv_aload_n dd_Sto_renumber_41 rfl ?_
  refine kv_getR fl_Sto_61 dd_Sto_renumber_42 hO1 hr2 ?_
  refine kv_iload_n dd_Sto_renumber_45 rfl ?_
  refine kv_iald j6 dd_Sto_renumber_46 hA5 hi6.1 hi6.2.1 hi6.2.2 ?_
  refine kv_iald j8 dd_Sto_renumber_47 hA7 hi8.1 hi8.2.1 hi8.2.2 ?_
  refine kv_iast j6 dd_Sto_renumber_48 hA5 hi6.1 hi6.2.1 hi6.2.2 ?_
  refine kv_iinc (v := v3 + 1) (L' := [(3, .int (v3 + 1)), (0, .ref a0), (1, .int v1), (2, .ref a2)]) dd_Sto_renumber_49 rfl rfl (by decide) rfl ?_
  refine kv_goto 17 dd_Sto_renumber_52 (by decide) ?_
  exact kv_loc [1, 2, 3, 0] rfl K
theorem bl_Sto_renumber_55 {d : Nat} {B : kv_B} {Q : kv_Q} {kc ks n : Nat} {S : kv_SM} {I : kv_IM} {a0 : Nat} {v1 : Int32} {a2 : Nat} {v3 : Int32} (K : kv_V y_Sto_renumber d B Q kc ks n S I 2 [(0, .ref a0), (1, .int (v1 + 1))] []) : kv_V y_Sto_renumber d B Q kc ks n S I 55 [(0, .ref a0), (1, .int v1), (2, .ref a2), (3, .int v3)] [] := by
  refine kv_iinc (v := v1 + 1) (L' := [(1, .int (v1 + 1)), (0, .ref a0), (2, .ref a2), (3, .int v3)]) dd_Sto_renumber_55 rfl rfl (by decide) rfl ?_
  refine kv_goto 2 dd_Sto_renumber_58 (by decide) ?_
  exact kv_loc [1, 0] rfl K
theorem bl_Sto_renumber_61 {d : Nat} {B : kv_B} {Q : kv_Q} {kc ks n : Nat} {S : kv_SM} {I : kv_IM} {a0 : Nat} {v1 : Int32} (hQ : Q (none) n S I) : kv_V y_Sto_renumber d B Q kc ks n S I 61 [(0, .ref a0), (1, .int v1)] [] := by
  exact kv_end (v := none) hQ ⟨dd_Sto_renumber_61, rfl⟩
theorem bl_Sto_takeInNew_0 {d : Nat} {B : kv_B} {Q : kv_Q} {kc ks n : Nat} {S : kv_SM} {I : kv_IM} {a0 : Nat} {a1 : Nat} {v2 : Int32} {r1 : Nat → Option Nat} {q2 : Nat} {r3 : Nat → Option Nat} {q4 : Nat} {m5 : Nat} {j6 : Nat} {dc kcc ksc : Nat} {Qy : kv_Q} (hO1 : S a0 = kO 3 r1) (hr2 : r1 0 = some q2) (hO3 : S q2 = kO 0 r3) (hr4 : r1 1 = some q4) (hA5 : S q4 = kI m5) (hi6 : I q2 5 = nI j6 ∧ j6 < m5 ∧ m5 < 2 ^ 31) (hM : kv_T y_Row_append dc kcc ksc B [.ref q2, .ref a1, .int v2] n S (kv_up I q4 j6 0) Qy) (hdp : dc + 1 ≤ d) (hkk : kcc ≤ kc) (hkl : ksc ≤ ks) (K : ∀ v n' S' I', Qy v n' S' I' → kv_V y_Sto_takeInNew d B Q (kc - kcc) (ks - ksc) n' S' I' 24 [(0, .ref a0), (1, .ref a1), (2, .int v2), (3, .int (I q2 5))] (v.toList ++ [])) : kv_V y_Sto_takeInNew d B Q kc ks n S I 0 [(0, .ref a0), (1, .ref a1), (2, .int v2)] [] := by
  refine kv_aload_n dd_Sto_takeInNew_0 rfl ?_
  refine kv_getR fl_Sto_14 dd_Sto_takeInNew_1 hO1 hr2 ?_
  refine kv_getI fl_Sto_42 dd_Sto_takeInNew_4 hO3 ?_
  refine kv_istore_n (L' := [(3, .int (I q2 5)), (0, .ref a0), (1, .ref a1), (2, .int v2)]) dd_Sto_takeInNew_7 (by decide) rfl ?_
  refine kv_aload_n dd_Sto_takeInNew_8 rfl ?_
  refine kv_getR fl_Sto_20 dd_Sto_takeInNew_9 hO1 hr4 ?_
  refine kv_iload_n dd_Sto_takeInNew_12 rfl ?_
  refine kv_iconst (v := 0) dd_Sto_takeInNew_13 (by decide) ?_
  refine kv_iast j6 dd_Sto_takeInNew_14 hA5 hi6.1 hi6.2.1 hi6.2.2 ?_
  refine kv_aload_n dd_Sto_takeInNew_15 rfl ?_
  refine kv_getR fl_Sto_14 dd_Sto_takeInNew_16 hO1 hr2 ?_
  refine kv_aload_n dd_Sto_takeInNew_19 rfl ?_
  refine kv_iload_n dd_Sto_takeInNew_20 rfl ?_
  exact kv_callV [.ref a1, .int v2] [] ls_Sto_96 hO3 hM dd_Sto_takeInNew_21 rfl hdp (Nat.le_of_ble_eq_true rfl) hkk hkl (fun v n' S' I' hv => kv_loc [1, 2, 3, 0] rfl (K v n' S' I' hv))
theorem bl_Sto_takeInNew_24 {d : Nat} {B : kv_B} {Q : kv_Q} {kc ks n : Nat} {S : kv_SM} {I : kv_IM} {a0 : Nat} {a1 : Nat} {v2 : Int32} {v3 : Int32} (hQ : Q (some (.int v3)) n S I) : kv_V y_Sto_takeInNew d B Q kc ks n S I 24 [(0, .ref a0), (1, .ref a1), (2, .int v2), (3, .int v3)] [] := by
  refine kv_iload_n dd_Sto_takeInNew_24 rfl ?_
  exact kv_end (v := some (.int v3)) hQ ⟨dd_Sto_takeInNew_25, .int, rfl, rfl⟩
theorem bl_Sto_countPlaces_0 {d : Nat} {B : kv_B} {Q : kv_Q} {kc ks n : Nat} {S : kv_SM} {I : kv_IM} {a0 : Nat} {a1 : Nat} {v2 : Int32} (K : kv_V y_Sto_countPlaces d B Q kc ks n S I 2 [(0, .ref a0), (1, .ref a1), (2, .int v2), (3, .int 0)] []) : kv_V y_Sto_countPlaces d B Q kc ks n S I 0 [(0, .ref a0), (1, .ref a1), (2, .int v2)] [] := by
  refine kv_iconst (v := 0) dd_Sto_countPlaces_0 (by decide) ?_
  refine kv_istore_n (L' := [(3, .int 0), (0, .ref a0), (1, .ref a1), (2, .int v2)]) dd_Sto_countPlaces_1 (by decide) rfl ?_
  exact kv_loc [1, 2, 3, 0] rfl K
theorem bl_Sto_countPlaces_2 {d : Nat} {B : kv_B} {Q : kv_Q} {kc ks n : Nat} {S : kv_SM} {I : kv_IM} {a0 : Nat} {a1 : Nat} {v2 : Int32} {v3 : Int32} {r1 : Nat → Option Nat} (hO1 : S a1 = kO 2 r1) (Kt : (I a1 1) ≤ v3 → kv_V y_Sto_countPlaces d B Q kc ks n S I 31 [(0, .ref a0), (1, .ref a1), (2, .int v2), (3, .int v3)] []) (Kf : ¬ (I a1 1) ≤ v3 → kv_V y_Sto_countPlaces d B Q kc ks n S I 10 [(0, .ref a0), (1, .ref a1), (2, .int v2), (3, .int v3)] []) : kv_V y_Sto_countPlaces d B Q kc ks n S I 2 [(0, .ref a0), (1, .ref a1), (2, .int v2), (3, .int v3)] [] := by
  refine kv_iload_n dd_Sto_countPlaces_2 rfl ?_
  refine kv_aload_n dd_Sto_countPlaces_3 rfl ?_
  refine kv_getI fl_Sto_67 dd_Sto_countPlaces_4 hO1 ?_
  exact kv_icmp_ge 31 dd_Sto_countPlaces_7 (by decide) (fun h => kv_loc [0, 1, 2, 3] rfl (Kt h)) (fun h => kv_loc [0, 1, 2, 3] rfl (Kf h))
theorem bl_Sto_countPlaces_10 {d : Nat} {B : kv_B} {Q : kv_Q} {kc ks n : Nat} {S : kv_SM} {I : kv_IM} {a0 : Nat} {a1 : Nat} {v2 : Int32} {v3 : Int32} {r1 : Nat → Option Nat} {q2 : Nat} {r3 : Nat → Option Nat} {q4 : Nat} {m5 : Nat} {j6 : Nat} {m7 : Nat} {j8 : Nat} (hO1 : S a0 = kO 3 r1) (hr2 : r1 1 = some q2) (hO3 : S a1 = kO 2 r3) (hr4 : r3 0 = some q4) (hA5 : S q4 = kI m5) (hi6 : v3 = nI j6 ∧ j6 < m5 ∧ m5 < 2 ^ 31) (hA7 : S q2 = kI m7) (hi8 : I q4 j6 = nI j8 ∧ j8 < m7 ∧ m7 < 2 ^ 31) (K : kv_V y_Sto_countPlaces d B Q kc ks n S (kv_up I q2 j8 ((I q2 j8) + v2)) 2 [(0, .ref a0), (1, .ref a1), (2, .int v2), (3, .int (v3 + 1))] []) : kv_V y_Sto_countPlaces d B Q kc ks n S I 10 [(0, .ref a0), (1, .ref a1), (2, .int v2), (3, .int v3)] [] := by
  refine kv_aload_n dd_Sto_countPlaces_10 rfl ?_
  refine kv_getR fl_Sto_20 dd_Sto_countPlaces_11 hO1 hr2 ?_
  refine kv_aload_n dd_Sto_countPlaces_14 rfl ?_
  refine kv_getR fl_Sto_61 dd_Sto_countPlaces_15 hO3 hr4 ?_
  refine kv_iload_n dd_Sto_countPlaces_18 rfl ?_
  refine kv_iald j6 dd_Sto_countPlaces_19 hA5 hi6.1 hi6.2.1 hi6.2.2 ?_
  refine kv_dup2 dd_Sto_countPlaces_20 rfl rfl ?_
  refine kv_iald j8 dd_Sto_countPlaces_21 hA7 hi8.1 hi8.2.1 hi8.2.2 ?_
  refine kv_iload_n dd_Sto_countPlaces_22 rfl ?_
  refine kv_iadd dd_Sto_countPlaces_23 ?_
  refine kv_iast j8 dd_Sto_countPlaces_24 hA7 hi8.1 hi8.2.1 hi8.2.2 ?_
  refine kv_iinc (v := v3 + 1) (L' := [(3, .int (v3 + 1)), (0, .ref a0), (1, .ref a1), (2, .int v2)]) dd_Sto_countPlaces_25 rfl rfl (by decide) rfl ?_
  refine kv_goto 2 dd_Sto_countPlaces_28 (by decide) ?_
  exact kv_loc [1, 2, 3, 0] rfl K
theorem bl_Sto_countPlaces_31 {d : Nat} {B : kv_B} {Q : kv_Q} {kc ks n : Nat} {S : kv_SM} {I : kv_IM} {a0 : Nat} {a1 : Nat} {v2 : Int32} {v3 : Int32} (hQ : Q (none) n S I) : kv_V y_Sto_countPlaces d B Q kc ks n S I 31 [(0, .ref a0), (1, .ref a1), (2, .int v2), (3, .int v3)] [] := by
  exact kv_end (v := none) hQ ⟨dd_Sto_countPlaces_31, rfl⟩
theorem bl_Sto_has_0 {d : Nat} {B : kv_B} {Q : kv_Q} {kc ks n : Nat} {S : kv_SM} {I : kv_IM} {a0 : Nat} {v1 : Int32} (Kt : v1 < 0 → kv_V y_Sto_has d B Q kc ks n S I 26 [(0, .ref a0), (1, .int v1)] []) (Kf : ¬ v1 < 0 → kv_V y_Sto_has d B Q kc ks n S I 4 [(0, .ref a0), (1, .int v1)] []) : kv_V y_Sto_has d B Q kc ks n S I 0 [(0, .ref a0), (1, .int v1)] [] := by
  refine kv_iload_n dd_Sto_has_0 rfl ?_
  exact kv_if_lt 26 dd_Sto_has_1 (by decide) (fun h => kv_loc [0, 1] rfl (Kt h)) (fun h => kv_loc [0, 1] rfl (Kf h))
theorem bl_Sto_has_4 {d : Nat} {B : kv_B} {Q : kv_Q} {kc ks n : Nat} {S : kv_SM} {I : kv_IM} {a0 : Nat} {v1 : Int32} (Kt : 10 ≤ v1 → kv_V y_Sto_has d B Q kc ks n S I 26 [(0, .ref a0), (1, .int v1)] []) (Kf : ¬ 10 ≤ v1 → kv_V y_Sto_has d B Q kc ks n S I 10 [(0, .ref a0), (1, .int v1)] []) : kv_V y_Sto_has d B Q kc ks n S I 4 [(0, .ref a0), (1, .int v1)] [] := by
  refine kv_iload_n dd_Sto_has_4 rfl ?_
  refine kv_bipush (v := 10) dd_Sto_has_5 (by decide) ?_
  exact kv_icmp_ge 26 dd_Sto_has_7 (by decide) (fun h => kv_loc [0, 1] rfl (Kt h)) (fun h => kv_loc [0, 1] rfl (Kf h))
theorem bl_Sto_has_10 {d : Nat} {B : kv_B} {Q : kv_Q} {kc ks n : Nat} {S : kv_SM} {I : kv_IM} {a0 : Nat} {v1 : Int32} {r1 : Nat → Option Nat} {q2 : Nat} {m3 : Nat} {r3 : Nat → Option Nat} {j4 : Nat} {q5 : Nat} {r6 : Nat → Option Nat} (hO1 : S a0 = kO 3 r1) (hr2 : r1 3 = some q2) (hA3 : S q2 = kA 2 m3 r3) (hi4 : v1 = nI j4 ∧ j4 < m3 ∧ m3 < 2 ^ 31) (he5 : r3 j4 = some q5) (hO6 : S q5 = kO 2 r6) (Kt : (I q5 3) = 0 → kv_V y_Sto_has d B Q kc ks n S I 26 [(0, .ref a0), (1, .int v1)] []) (Kf : ¬ (I q5 3) = 0 → kv_V y_Sto_has d B Q kc ks n S I 22 [(0, .ref a0), (1, .int v1)] []) : kv_V y_Sto_has d B Q kc ks n S I 10 [(0, .ref a0), (1, .int v1)] [] := by
  refine kv_aload_n dd_Sto_has_10 rfl ?_
  refine kv_getR fl_Sto_29 dd_Sto_has_11 hO1 hr2 ?_
  refine kv_iload_n dd_Sto_has_14 rfl ?_
  refine kv_aald j4 dd_Sto_has_15 hA3 ⟨3, _, fun _ => rfl⟩ hi4.1 hi4.2.1 hi4.2.2 he5 ?_
  refine kv_getI fl_Sto_34 dd_Sto_has_16 hO6 ?_
  exact kv_if_eq 26 dd_Sto_has_19 (by decide) (fun h => kv_loc [0, 1] rfl (Kt h)) (fun h => kv_loc [0, 1] rfl (Kf h))
theorem bl_Sto_has_22 {d : Nat} {B : kv_B} {Q : kv_Q} {kc ks n : Nat} {S : kv_SM} {I : kv_IM} {a0 : Nat} {v1 : Int32} (K : kv_V y_Sto_has d B Q kc ks n S I 27 [(0, .ref a0), (1, .int v1)] [.int 1]) : kv_V y_Sto_has d B Q kc ks n S I 22 [(0, .ref a0), (1, .int v1)] [] := by
  refine kv_iconst (v := 1) dd_Sto_has_22 (by decide) ?_
  refine kv_goto 27 dd_Sto_has_23 (by decide) ?_
  exact kv_loc [0, 1] rfl K
theorem bl_Sto_has_26 {d : Nat} {B : kv_B} {Q : kv_Q} {kc ks n : Nat} {S : kv_SM} {I : kv_IM} {a0 : Nat} {v1 : Int32} (K : kv_V y_Sto_has d B Q kc ks n S I 27 [(0, .ref a0), (1, .int v1)] [.int 0]) : kv_V y_Sto_has d B Q kc ks n S I 26 [(0, .ref a0), (1, .int v1)] [] := by
  refine kv_iconst (v := 0) dd_Sto_has_26 (by decide) ?_
  exact kv_loc [0, 1] rfl K
theorem bl_Sto_has_27 {d : Nat} {B : kv_B} {Q : kv_Q} {kc ks n : Nat} {S : kv_SM} {I : kv_IM} {a0 : Nat} {v1 : Int32} {t0 : Int32} (hb : narrow .boolean (.int t0) = .int t0) (hQ : Q (some (.int t0)) n S I) : kv_V y_Sto_has d B Q kc ks n S I 27 [(0, .ref a0), (1, .int v1)] [.int t0] := by
  exact kv_end (v := some (.int t0)) hQ ⟨dd_Sto_has_27, .boolean, rfl, hb⟩
theorem bl_Sto_letGo_0 {d : Nat} {B : kv_B} {Q : kv_Q} {kc ks n : Nat} {S : kv_SM} {I : kv_IM} {a0 : Nat} {v1 : Int32} {r1 : Nat → Option Nat} {q2 : Nat} {m3 : Nat} {r3 : Nat → Option Nat} {j4 : Nat} {q5 : Nat} {dc kcc ksc : Nat} {Qy : kv_Q} (hO1 : S a0 = kO 3 r1) (hr2 : r1 3 = some q2) (hA3 : S q2 = kA 2 m3 r3) (hi4 : v1 = nI j4 ∧ j4 < m3 ∧ m3 < 2 ^ 31) (he5 : r3 j4 = some q5) (hM : kv_T y_Sto_countPlaces dc kcc ksc B [.ref a0, .ref q5, .int ((-1))] n S I Qy) (hdp : dc + 1 ≤ d) (hkk : kcc ≤ kc) (hkl : ksc ≤ ks) (K : ∀ v n' S' I', Qy v n' S' I' → kv_V y_Sto_letGo d B Q (kc - kcc) (ks - ksc) n' S' I' 13 [(0, .ref a0), (1, .int v1), (2, .ref q5)] (v.toList ++ [])) : kv_V y_Sto_letGo d B Q kc ks n S I 0 [(0, .ref a0), (1, .int v1)] [] := by
  refine kv_aload_n dd_Sto_letGo_0 rfl ?_
  refine kv_getR fl_Sto_29 dd_Sto_letGo_1 hO1 hr2 ?_
  refine kv_iload_n dd_Sto_letGo_4 rfl ?_
  refine kv_aald j4 dd_Sto_letGo_5 hA3 ⟨3, _, fun _ => rfl⟩ hi4.1 hi4.2.1 hi4.2.2 he5 ?_
  refine kv_astore_n (L' := [(2, .ref q5), (0, .ref a0), (1, .int v1)]) dd_Sto_letGo_6 (by decide) rfl ?_
  refine kv_aload_n dd_Sto_letGo_7 rfl ?_
  refine kv_aload_n dd_Sto_letGo_8 rfl ?_
  refine kv_iconst (v := (-1)) dd_Sto_letGo_9 (by decide) ?_
  exact kv_callV [.ref q5, .int ((-1))] [] ls_Sto_74 hO1 hM dd_Sto_letGo_10 rfl hdp (Nat.le_of_ble_eq_true rfl) hkk hkl (fun v n' S' I' hv => kv_loc [1, 2, 0] rfl (K v n' S' I' hv))
theorem bl_Sto_letGo_13 {d : Nat} {B : kv_B} {Q : kv_Q} {kc ks n : Nat} {S : kv_SM} {I : kv_IM} {a0 : Nat} {v1 : Int32} {a2 : Nat} {r1 : Nat → Option Nat} {dc kcc ksc : Nat} {Qy : kv_Q} {r2 : Nat → Option Nat} (hO1 : S a2 = kO 2 r1) (hO2 : S a0 = kO 3 r2) (hM : kv_T y_Sto_sweep dc kcc ksc B [.ref a0] n S (kv_up I a2 3 0) Qy) (hdp : dc + 1 ≤ d) (hkk : kcc ≤ kc) (hkl : ksc ≤ ks) (K : ∀ v n' S' I', Qy v n' S' I' → kv_V y_Sto_letGo d B Q (kc - kcc) (ks - ksc) n' S' I' 22 [(0, .ref a0), (1, .int v1), (2, .ref a2)] (v.toList ++ [])) : kv_V y_Sto_letGo d B Q kc ks n S I 13 [(0, .ref a0), (1, .int v1), (2, .ref a2)] [] := by
  refine kv_aload_n dd_Sto_letGo_13 rfl ?_
  refine kv_iconst (v := 0) dd_Sto_letGo_14 (by decide) ?_
  refine kv_putI fp_Sto_34 (fun h => by cases h) dd_Sto_letGo_15 hO1 rfl rfl ?_
  refine kv_aload_n dd_Sto_letGo_18 rfl ?_
  exact kv_callV [] [] ls_Sto_58 hO2 hM dd_Sto_letGo_19 rfl hdp (Nat.le_of_ble_eq_true rfl) hkk hkl (fun v n' S' I' hv => kv_loc [0, 1, 2] rfl (K v n' S' I' hv))
theorem bl_Sto_letGo_22 {d : Nat} {B : kv_B} {Q : kv_Q} {kc ks n : Nat} {S : kv_SM} {I : kv_IM} {a0 : Nat} {v1 : Int32} {a2 : Nat} {t0 : Int32} (hQ : Q (some (.int t0)) n S I) : kv_V y_Sto_letGo d B Q kc ks n S I 22 [(0, .ref a0), (1, .int v1), (2, .ref a2)] [.int t0] := by
  exact kv_end (v := some (.int t0)) hQ ⟨dd_Sto_letGo_22, .int, rfl, rfl⟩
theorem bl_Sto_giveBack_0 {d : Nat} {B : kv_B} {Q : kv_Q} {kc ks n : Nat} {S : kv_SM} {I : kv_IM} {a0 : Nat} {v1 : Int32} {a2 : Nat} {r1 : Nat → Option Nat} {q2 : Nat} {m3 : Nat} {r3 : Nat → Option Nat} {j4 : Nat} {q5 : Nat} (hO1 : S a0 = kO 3 r1) (hr2 : r1 3 = some q2) (hA3 : S q2 = kA 2 m3 r3) (hi4 : v1 = nI j4 ∧ j4 < m3 ∧ m3 < 2 ^ 31) (he5 : r3 j4 = some q5) (K : kv_V y_Sto_giveBack d B Q kc ks n S I 13 [(0, .ref a0), (1, .int v1), (2, .ref a2), (3, .ref q5), (4, .int 0), (5, .int 0)] []) : kv_V y_Sto_giveBack d B Q kc ks n S I 0 [(0, .ref a0), (1, .int v1), (2, .ref a2)] [] := by
  refine kv_aload_n dd_Sto_giveBack_0 rfl ?_
  refine kv_getR fl_Sto_29 dd_Sto_giveBack_1 hO1 hr2 ?_
  refine kv_iload_n dd_Sto_giveBack_4 rfl ?_
  refine kv_aald j4 dd_Sto_giveBack_5 hA3 ⟨3, _, fun _ => rfl⟩ hi4.1 hi4.2.1 hi4.2.2 he5 ?_
  refine kv_astore_n (L' := [(3, .ref q5), (0, .ref a0), (1, .int v1), (2, .ref a2)]) dd_Sto_giveBack_6 (by decide) rfl ?_
  refine kv_iconst (v := 0) dd_Sto_giveBack_7 (by decide) ?_
  refine kv_istore (L' := [(4, .int 0), (3, .ref q5), (0, .ref a0), (1, .int v1), (2, .ref a2)]) dd_Sto_giveBack_8 (by decide) rfl ?_
  refine kv_iconst (v := 0) dd_Sto_giveBack_10 (by decide) ?_
  refine kv_istore (L' := [(5, .int 0), (4, .int 0), (3, .ref q5), (0, .ref a0), (1, .int v1), (2, .ref a2)]) dd_Sto_giveBack_11 (by decide) rfl ?_
  exact kv_loc [3, 4, 5, 2, 1, 0] rfl K
theorem bl_Sto_giveBack_13 {d : Nat} {B : kv_B} {Q : kv_Q} {kc ks n : Nat} {S : kv_SM} {I : kv_IM} {a0 : Nat} {v1 : Int32} {a2 : Nat} {a3 : Nat} {v4 : Int32} {v5 : Int32} {r1 : Nat → Option Nat} (hO1 : S a3 = kO 2 r1) (Kt : (I a3 1) ≤ v5 → kv_V y_Sto_giveBack d B Q kc ks n S I 86 [(0, .ref a0), (1, .int v1), (2, .ref a2), (3, .ref a3), (4, .int v4), (5, .int v5)] []) (Kf : ¬ (I a3 1) ≤ v5 → kv_V y_Sto_giveBack d B Q kc ks n S I 22 [(0, .ref a0), (1, .int v1), (2, .ref a2), (3, .ref a3), (4, .int v4), (5, .int v5)] []) : kv_V y_Sto_giveBack d B Q kc ks n S I 13 [(0, .ref a0), (1, .int v1), (2, .ref a2), (3, .ref a3), (4, .int v4), (5, .int v5)] [] := by
  refine kv_iload dd_Sto_giveBack_13 rfl ?_
  refine kv_aload_n dd_Sto_giveBack_15 rfl ?_
  refine kv_getI fl_Sto_67 dd_Sto_giveBack_16 hO1 ?_
  exact kv_icmp_ge 86 dd_Sto_giveBack_19 (by decide) (fun h => kv_loc [0, 1, 2, 3, 4, 5] rfl (Kt h)) (fun h => kv_loc [0, 1, 2, 3, 4, 5] rfl (Kf h))
theorem bl_Sto_giveBack_22 {d : Nat} {B : kv_B} {Q : kv_Q} {kc ks n : Nat} {S : kv_SM} {I : kv_IM} {a0 : Nat} {v1 : Int32} {a2 : Nat} {a3 : Nat} {v4 : Int32} {v5 : Int32} {r1 : Nat → Option Nat} {q2 : Nat} {m3 : Nat} {j4 : Nat} {r5 : Nat → Option Nat} {q6 : Nat} {dc kcc ksc : Nat} {Qy : kv_Q} {r7 : Nat → Option Nat} (hO1 : S a3 = kO 2 r1) (hr2 : r1 0 = some q2) (hA3 : S q2 = kI m3) (hi4 : v5 = nI j4 ∧ j4 < m3 ∧ m3 < 2 ^ 31) (hO5 : S a0 = kO 3 r5) (hr6 : r5 0 = some q6) (hO7 : S q6 = kO 0 r7) (hM : kv_T y_Row_bytesOf dc kcc ksc B [.ref q6, .int (I q2 j4)] n S I Qy) (hdp : dc + 1 ≤ d) (hkk : kcc ≤ kc) (hkl : ksc ≤ ks) (K : ∀ v n' S' I', Qy v n' S' I' → kv_V y_Sto_giveBack d B Q (kc - kcc) (ks - ksc) n' S' I' 40 [(0, .ref a0), (1, .int v1), (2, .ref a2), (3, .ref a3), (4, .int v4), (5, .int v5), (6, .int (I q2 j4))] (v.toList ++ [])) : kv_V y_Sto_giveBack d B Q kc ks n S I 22 [(0, .ref a0), (1, .int v1), (2, .ref a2), (3, .ref a3), (4, .int v4), (5, .int v5)] [] := by
  refine kv_aload_n dd_Sto_giveBack_22 rfl ?_
  refine kv_getR fl_Sto_61 dd_Sto_giveBack_23 hO1 hr2 ?_
  refine kv_iload dd_Sto_giveBack_26 rfl ?_
  refine kv_iald j4 dd_Sto_giveBack_28 hA3 hi4.1 hi4.2.1 hi4.2.2 ?_
  refine kv_istore (L' := [(6, .int (I q2 j4)), (0, .ref a0), (1, .int v1), (2, .ref a2), (3, .ref a3), (4, .int v4), (5, .int v5)]) dd_Sto_giveBack_29 (by decide) rfl ?_
  refine kv_aload_n dd_Sto_giveBack_31 rfl ?_
  refine kv_getR fl_Sto_14 dd_Sto_giveBack_32 hO5 hr6 ?_
  refine kv_iload dd_Sto_giveBack_35 rfl ?_
  exact kv_callV [.int (I q2 j4)] [] ls_Sto_50 hO7 hM dd_Sto_giveBack_37 rfl hdp (Nat.le_of_ble_eq_true rfl) hkk hkl (fun v n' S' I' hv => kv_loc [1, 2, 3, 4, 5, 6, 0] rfl (K v n' S' I' hv))
theorem bl_Sto_giveBack_40 {d : Nat} {B : kv_B} {Q : kv_Q} {kc ks n : Nat} {S : kv_SM} {I : kv_IM} {a0 : Nat} {v1 : Int32} {a2 : Nat} {a3 : Nat} {v4 : Int32} {v5 : Int32} {v6 : Int32} {t0 : Int32} {r1 : Nat → Option Nat} {q2 : Nat} {r3 : Nat → Option Nat} {q4 : Nat} {q5 : Nat} {m6 : Nat} {j7 : Nat} {r8 : Nat → Option Nat} {q9 : Nat} {r10 : Nat → Option Nat} {q11 : Nat} {m12 : Nat} {m13 : Nat} {sp14 dp14 N14 : Nat} (hd1 : 1 ≤ d) (hO1 : S a0 = kO 3 r1) (hr2 : r1 0 = some q2) (hO3 : S q2 = kO 0 r3) (hr4 : r3 0 = some q4) (hr5 : r3 1 = some q5) (hA6 : S q5 = kI m6) (hi7 : v6 = nI j7 ∧ j7 < m6 ∧ m6 < 2 ^ 31) (hO8 : S a2 = kO 4 r8) (hr9 : r8 0 = some q9) (hO10 : S q9 = kO 0 r10) (hr11 : r10 0 = some q11) (hA12 : S q4 = kI m12) (hA13 : S q11 = kI m13) (hc14 : (0 < m12 ∧ 0 < m13 ∧ m12 < 2 ^ 30 ∧ m13 < 2 ^ 30) ∧ (I q5 j7 = nI sp14 ∧ v4 = nI dp14 ∧ t0 = nI N14) ∧ sp14 + N14 ≤ m12 ∧ dp14 + N14 ≤ m13) (K : kv_V y_Sto_giveBack d B Q kc ks n S (kv_cp I q4 q11 sp14 dp14 N14) 13 [(0, .ref a0), (1, .int v1), (2, .ref a2), (3, .ref a3), (4, .int (v4 + t0)), (5, .int (v5 + 1))] []) : kv_V y_Sto_giveBack d B Q kc ks n S I 40 [(0, .ref a0), (1, .int v1), (2, .ref a2), (3, .ref a3), (4, .int v4), (5, .int v5), (6, .int v6)] [.int t0] := by
  refine kv_istore (L' := [(7, .int t0), (0, .ref a0), (1, .int v1), (2, .ref a2), (3, .ref a3), (4, .int v4), (5, .int v5), (6, .int v6)]) dd_Sto_giveBack_40 (by decide) rfl ?_
  refine kv_aload_n dd_Sto_giveBack_42 rfl ?_
  refine kv_getR fl_Sto_14 dd_Sto_giveBack_43 hO1 hr2 ?_
  refine kv_getR fl_Sto_78 dd_Sto_giveBack_46 hO3 hr4 ?_
  refine kv_aload_n dd_Sto_giveBack_49 rfl ?_
  refine kv_getR fl_Sto_14 dd_Sto_giveBack_50 hO1 hr2 ?_
  refine kv_getR fl_Sto_81 dd_Sto_giveBack_53 hO3 hr5 ?_
  refine kv_iload dd_Sto_giveBack_56 rfl ?_
  refine kv_iald j7 dd_Sto_giveBack_58 hA6 hi7.1 hi7.2.1 hi7.2.2 ?_
  refine kv_aload_n dd_Sto_giveBack_59 rfl ?_
  refine kv_getR fl_Sto_84 dd_Sto_giveBack_60 hO8 hr9 ?_
  refine kv_getR fl_Sto_78 dd_Sto_giveBack_63 hO10 hr11 ?_
  refine kv_iload dd_Sto_giveBack_66 rfl ?_
  refine kv_iload dd_Sto_giveBack_68 rfl ?_
  refine kv_copy sp14 dp14 N14 wm_Sto_87 wy_n wy_s wi_java_lang_System dd_Sto_giveBack_70 hd1 (Nat.le_of_ble_eq_true rfl) hA12 hA13 hc14.1.1 hc14.1.2.1 hc14.1.2.2.1 hc14.1.2.2.2 hc14.2.1.1 hc14.2.1.2.1 hc14.2.1.2.2 hc14.2.2.1 hc14.2.2.2 ?_
  refine kv_iload dd_Sto_giveBack_73 rfl ?_
  refine kv_iload dd_Sto_giveBack_75 rfl ?_
  refine kv_iadd dd_Sto_giveBack_77 ?_
  refine kv_istore (L' := [(4, .int (v4 + t0)), (7, .int t0), (0, .ref a0), (1, .int v1), (2, .ref a2), (3, .ref a3), (5, .int v5), (6, .int v6)]) dd_Sto_giveBack_78 (by decide) rfl ?_
  refine kv_iinc (v := v5 + 1) (L' := [(5, .int (v5 + 1)), (4, .int (v4 + t0)), (7, .int t0), (0, .ref a0), (1, .int v1), (2, .ref a2), (3, .ref a3), (6, .int v6)]) dd_Sto_giveBack_80 rfl rfl (by decide) rfl ?_
  refine kv_goto 13 dd_Sto_giveBack_83 (by decide) ?_
  exact kv_loc [3, 4, 5, 6, 1, 0] rfl K
theorem bl_Sto_giveBack_86 {d : Nat} {B : kv_B} {Q : kv_Q} {kc ks n : Nat} {S : kv_SM} {I : kv_IM} {a0 : Nat} {v1 : Int32} {a2 : Nat} {a3 : Nat} {v4 : Int32} {v5 : Int32} {dc kcc ksc : Nat} {Qy : kv_Q} {r1 : Nat → Option Nat} (hO1 : S a2 = kO 4 r1) (hM : kv_T y_Txt_changedTo dc kcc ksc B [.ref a2, .int v4] n S I Qy) (hdp : dc + 1 ≤ d) (hkk : kcc ≤ kc) (hkl : ksc ≤ ks) (K : ∀ v n' S' I', Qy v n' S' I' → kv_V y_Sto_giveBack d B Q (kc - kcc) (ks - ksc) n' S' I' 92 [(0, .ref a0), (1, .int v1), (2, .ref a2), (3, .ref a3), (4, .int v4), (5, .int v5)] (v.toList ++ [])) : kv_V y_Sto_giveBack d B Q kc ks n S I 86 [(0, .ref a0), (1, .int v1), (2, .ref a2), (3, .ref a3), (4, .int v4), (5, .int v5)] [] := by
  refine kv_aload_n dd_Sto_giveBack_86 rfl ?_
  refine kv_iload dd_Sto_giveBack_87 rfl ?_
  exact kv_callV [.int v4] [] ls_Sto_93 hO1 hM dd_Sto_giveBack_89 rfl hdp (Nat.le_of_ble_eq_true rfl) hkk hkl (fun v n' S' I' hv => kv_loc [0, 1, 2, 3, 4, 5] rfl (K v n' S' I' hv))
theorem bl_Sto_giveBack_92 {d : Nat} {B : kv_B} {Q : kv_Q} {kc ks n : Nat} {S : kv_SM} {I : kv_IM} {a0 : Nat} {v1 : Int32} {a2 : Nat} {a3 : Nat} {v4 : Int32} {v5 : Int32} {t0 : Int32} (hQ : Q (some (.int t0)) n S I) : kv_V y_Sto_giveBack d B Q kc ks n S I 92 [(0, .ref a0), (1, .int v1), (2, .ref a2), (3, .ref a3), (4, .int v4), (5, .int v5)] [.int t0] := by
  exact kv_end (v := some (.int t0)) hQ ⟨dd_Sto_giveBack_92, .int, rfl, rfl⟩
theorem bl_Sto_placesOf_0 {d : Nat} {B : kv_B} {Q : kv_Q} {kc ks n : Nat} {S : kv_SM} {I : kv_IM} {a0 : Nat} {a1 : Nat} {v2 : Int32} {r1 : Nat → Option Nat} {q2 : Nat} {dc kcc ksc : Nat} {Qy : kv_Q} {r3 : Nat → Option Nat} (hO1 : S a0 = kO 3 r1) (hr2 : r1 0 = some q2) (hO3 : S q2 = kO 0 r3) (hM : kv_T y_Row_find dc kcc ksc B [.ref q2, .ref a1, .int v2] n S I Qy) (hdp : dc + 1 ≤ d) (hkk : kcc ≤ kc) (hkl : ksc ≤ ks) (K : ∀ v n' S' I', Qy v n' S' I' → kv_V y_Sto_placesOf d B Q (kc - kcc) (ks - ksc) n' S' I' 9 [(0, .ref a0), (1, .ref a1), (2, .int v2)] (v.toList ++ [])) : kv_V y_Sto_placesOf d B Q kc ks n S I 0 [(0, .ref a0), (1, .ref a1), (2, .int v2)] [] := by
  refine kv_aload_n dd_Sto_placesOf_0 rfl ?_
  refine kv_getR fl_Sto_14 dd_Sto_placesOf_1 hO1 hr2 ?_
  refine kv_aload_n dd_Sto_placesOf_4 rfl ?_
  refine kv_iload_n dd_Sto_placesOf_5 rfl ?_
  exact kv_callV [.ref a1, .int v2] [] ls_Sto_46 hO3 hM dd_Sto_placesOf_6 rfl hdp (Nat.le_of_ble_eq_true rfl) hkk hkl (fun v n' S' I' hv => kv_loc [0, 1, 2] rfl (K v n' S' I' hv))
theorem bl_Sto_placesOf_9 {d : Nat} {B : kv_B} {Q : kv_Q} {kc ks n : Nat} {S : kv_SM} {I : kv_IM} {a0 : Nat} {a1 : Nat} {v2 : Int32} {t0 : Int32} (Kt : ¬ t0 = ((-1)) → kv_V y_Sto_placesOf d B Q kc ks n S I 19 [(0, .ref a0), (1, .ref a1), (2, .int v2), (3, .int t0)] []) (Kf : t0 = ((-1)) → kv_V y_Sto_placesOf d B Q kc ks n S I 15 [(0, .ref a0), (1, .ref a1), (2, .int v2), (3, .int t0)] []) : kv_V y_Sto_placesOf d B Q kc ks n S I 9 [(0, .ref a0), (1, .ref a1), (2, .int v2)] [.int t0] := by
  refine kv_istore_n (L' := [(3, .int t0), (0, .ref a0), (1, .ref a1), (2, .int v2)]) dd_Sto_placesOf_9 (by decide) rfl ?_
  refine kv_iload_n dd_Sto_placesOf_10 rfl ?_
  refine kv_iconst (v := (-1)) dd_Sto_placesOf_11 (by decide) ?_
  exact kv_icmp_ne 19 dd_Sto_placesOf_12 (by decide) (fun h => kv_loc [1, 2, 3, 0] rfl (Kt h)) (fun h => kv_loc [1, 2, 3, 0] rfl (Kf h))
theorem bl_Sto_placesOf_15 {d : Nat} {B : kv_B} {Q : kv_Q} {kc ks n : Nat} {S : kv_SM} {I : kv_IM} {a0 : Nat} {a1 : Nat} {v2 : Int32} {v3 : Int32} (K : kv_V y_Sto_placesOf d B Q kc ks n S I 25 [(0, .ref a0), (1, .ref a1), (2, .int v2), (3, .int v3)] [.int 0]) : kv_V y_Sto_placesOf d B Q kc ks n S I 15 [(0, .ref a0), (1, .ref a1), (2, .int v2), (3, .int v3)] [] := by
  refine kv_iconst (v := 0) dd_Sto_placesOf_15 (by decide) ?_
  refine kv_goto 25 dd_Sto_placesOf_16 (by decide) ?_
  exact kv_loc [0, 1, 2, 3] rfl K
theorem bl_Sto_placesOf_19 {d : Nat} {B : kv_B} {Q : kv_Q} {kc ks n : Nat} {S : kv_SM} {I : kv_IM} {a0 : Nat} {a1 : Nat} {v2 : Int32} {v3 : Int32} {r1 : Nat → Option Nat} {q2 : Nat} {m3 : Nat} {j4 : Nat} (hO1 : S a0 = kO 3 r1) (hr2 : r1 1 = some q2) (hA3 : S q2 = kI m3) (hi4 : v3 = nI j4 ∧ j4 < m3 ∧ m3 < 2 ^ 31) (K : kv_V y_Sto_placesOf d B Q kc ks n S I 25 [(0, .ref a0), (1, .ref a1), (2, .int v2), (3, .int v3)] [.int (I q2 j4)]) : kv_V y_Sto_placesOf d B Q kc ks n S I 19 [(0, .ref a0), (1, .ref a1), (2, .int v2), (3, .int v3)] [] := by
  refine kv_aload_n dd_Sto_placesOf_19 rfl ?_
  refine kv_getR fl_Sto_20 dd_Sto_placesOf_20 hO1 hr2 ?_
  refine kv_iload_n dd_Sto_placesOf_23 rfl ?_
  refine kv_iald j4 dd_Sto_placesOf_24 hA3 hi4.1 hi4.2.1 hi4.2.2 ?_
  exact kv_loc [0, 1, 2, 3] rfl K
theorem bl_Sto_placesOf_25 {d : Nat} {B : kv_B} {Q : kv_Q} {kc ks n : Nat} {S : kv_SM} {I : kv_IM} {a0 : Nat} {a1 : Nat} {v2 : Int32} {v3 : Int32} {t0 : Int32} (hQ : Q (some (.int t0)) n S I) : kv_V y_Sto_placesOf d B Q kc ks n S I 25 [(0, .ref a0), (1, .ref a1), (2, .int v2), (3, .int v3)] [.int t0] := by
  exact kv_end (v := some (.int t0)) hQ ⟨dd_Sto_placesOf_25, .int, rfl, rfl⟩
theorem bl_Sto_snapshotsThere_0 {d : Nat} {B : kv_B} {Q : kv_Q} {kc ks n : Nat} {S : kv_SM} {I : kv_IM} {a0 : Nat} (K : kv_V y_Sto_snapshotsThere d B Q kc ks n S I 4 [(0, .ref a0), (1, .int 0), (2, .int 0)] []) : kv_V y_Sto_snapshotsThere d B Q kc ks n S I 0 [(0, .ref a0)] [] := by
  refine kv_iconst (v := 0) dd_Sto_snapshotsThere_0 (by decide) ?_
  refine kv_istore_n (L' := [(1, .int 0), (0, .ref a0)]) dd_Sto_snapshotsThere_1 (by decide) rfl ?_
  refine kv_iconst (v := 0) dd_Sto_snapshotsThere_2 (by decide) ?_
  refine kv_istore_n (L' := [(2, .int 0), (1, .int 0), (0, .ref a0)]) dd_Sto_snapshotsThere_3 (by decide) rfl ?_
  exact kv_loc [2, 1, 0] rfl K
theorem bl_Sto_snapshotsThere_4 {d : Nat} {B : kv_B} {Q : kv_Q} {kc ks n : Nat} {S : kv_SM} {I : kv_IM} {a0 : Nat} {v1 : Int32} {v2 : Int32} (Kt : 10 ≤ v2 → kv_V y_Sto_snapshotsThere d B Q kc ks n S I 31 [(0, .ref a0), (1, .int v1), (2, .int v2)] []) (Kf : ¬ 10 ≤ v2 → kv_V y_Sto_snapshotsThere d B Q kc ks n S I 10 [(0, .ref a0), (1, .int v1), (2, .int v2)] []) : kv_V y_Sto_snapshotsThere d B Q kc ks n S I 4 [(0, .ref a0), (1, .int v1), (2, .int v2)] [] := by
  refine kv_iload_n dd_Sto_snapshotsThere_4 rfl ?_
  refine kv_bipush (v := 10) dd_Sto_snapshotsThere_5 (by decide) ?_
  exact kv_icmp_ge 31 dd_Sto_snapshotsThere_7 (by decide) (fun h => kv_loc [0, 1, 2] rfl (Kt h)) (fun h => kv_loc [0, 1, 2] rfl (Kf h))
theorem bl_Sto_snapshotsThere_10 {d : Nat} {B : kv_B} {Q : kv_Q} {kc ks n : Nat} {S : kv_SM} {I : kv_IM} {a0 : Nat} {v1 : Int32} {v2 : Int32} {r1 : Nat → Option Nat} {q2 : Nat} {m3 : Nat} {r3 : Nat → Option Nat} {j4 : Nat} {q5 : Nat} {r6 : Nat → Option Nat} (hO1 : S a0 = kO 3 r1) (hr2 : r1 3 = some q2) (hA3 : S q2 = kA 2 m3 r3) (hi4 : v2 = nI j4 ∧ j4 < m3 ∧ m3 < 2 ^ 31) (he5 : r3 j4 = some q5) (hO6 : S q5 = kO 2 r6) (Kt : (I q5 3) = 0 → kv_V y_Sto_snapshotsThere d B Q kc ks n S I 25 [(0, .ref a0), (1, .int v1), (2, .int v2)] []) (Kf : ¬ (I q5 3) = 0 → kv_V y_Sto_snapshotsThere d B Q kc ks n S I 22 [(0, .ref a0), (1, .int v1), (2, .int v2)] []) : kv_V y_Sto_snapshotsThere d B Q kc ks n S I 10 [(0, .ref a0), (1, .int v1), (2, .int v2)] [] := by
  refine kv_aload_n dd_Sto_snapshotsThere_10 rfl ?_
  refine kv_getR fl_Sto_29 dd_Sto_snapshotsThere_11 hO1 hr2 ?_
  refine kv_iload_n dd_Sto_snapshotsThere_14 rfl ?_
  refine kv_aald j4 dd_Sto_snapshotsThere_15 hA3 ⟨3, _, fun _ => rfl⟩ hi4.1 hi4.2.1 hi4.2.2 he5 ?_
  refine kv_getI fl_Sto_34 dd_Sto_snapshotsThere_16 hO6 ?_
  exact kv_if_eq 25 dd_Sto_snapshotsThere_19 (by decide) (fun h => kv_loc [0, 1, 2] rfl (Kt h)) (fun h => kv_loc [0, 1, 2] rfl (Kf h))
theorem bl_Sto_snapshotsThere_22 {d : Nat} {B : kv_B} {Q : kv_Q} {kc ks n : Nat} {S : kv_SM} {I : kv_IM} {a0 : Nat} {v1 : Int32} {v2 : Int32} (K : kv_V y_Sto_snapshotsThere d B Q kc ks n S I 25 [(0, .ref a0), (1, .int (v1 + 1)), (2, .int v2)] []) : kv_V y_Sto_snapshotsThere d B Q kc ks n S I 22 [(0, .ref a0), (1, .int v1), (2, .int v2)] [] := by
  refine kv_iinc (v := v1 + 1) (L' := [(1, .int (v1 + 1)), (0, .ref a0), (2, .int v2)]) dd_Sto_snapshotsThere_22 rfl rfl (by decide) rfl ?_
  exact kv_loc [1, 0, 2] rfl K
theorem bl_Sto_snapshotsThere_25 {d : Nat} {B : kv_B} {Q : kv_Q} {kc ks n : Nat} {S : kv_SM} {I : kv_IM} {a0 : Nat} {v1 : Int32} {v2 : Int32} (K : kv_V y_Sto_snapshotsThere d B Q kc ks n S I 4 [(0, .ref a0), (1, .int v1), (2, .int (v2 + 1))] []) : kv_V y_Sto_snapshotsThere d B Q kc ks n S I 25 [(0, .ref a0), (1, .int v1), (2, .int v2)] [] := by
  refine kv_iinc (v := v2 + 1) (L' := [(2, .int (v2 + 1)), (0, .ref a0), (1, .int v1)]) dd_Sto_snapshotsThere_25 rfl rfl (by decide) rfl ?_
  refine kv_goto 4 dd_Sto_snapshotsThere_28 (by decide) ?_
  exact kv_loc [1, 2, 0] rfl K
theorem bl_Sto_snapshotsThere_31 {d : Nat} {B : kv_B} {Q : kv_Q} {kc ks n : Nat} {S : kv_SM} {I : kv_IM} {a0 : Nat} {v1 : Int32} {v2 : Int32} (hQ : Q (some (.int v1)) n S I) : kv_V y_Sto_snapshotsThere d B Q kc ks n S I 31 [(0, .ref a0), (1, .int v1), (2, .int v2)] [] := by
  refine kv_iload_n dd_Sto_snapshotsThere_31 rfl ?_
  exact kv_end (v := some (.int v1)) hQ ⟨dd_Sto_snapshotsThere_32, .int, rfl, rfl⟩
theorem bl_Sto_allPlaces_0 {d : Nat} {B : kv_B} {Q : kv_Q} {kc ks n : Nat} {S : kv_SM} {I : kv_IM} {a0 : Nat} (K : kv_V y_Sto_allPlaces d B Q kc ks n S I 4 [(0, .ref a0), (1, .int 0), (2, .int 0)] []) : kv_V y_Sto_allPlaces d B Q kc ks n S I 0 [(0, .ref a0)] [] := by
  refine kv_iconst (v := 0) dd_Sto_allPlaces_0 (by decide) ?_
  refine kv_istore_n (L' := [(1, .int 0), (0, .ref a0)]) dd_Sto_allPlaces_1 (by decide) rfl ?_
  refine kv_iconst (v := 0) dd_Sto_allPlaces_2 (by decide) ?_
  refine kv_istore_n (L' := [(2, .int 0), (1, .int 0), (0, .ref a0)]) dd_Sto_allPlaces_3 (by decide) rfl ?_
  exact kv_loc [2, 1, 0] rfl K
theorem bl_Sto_allPlaces_4 {d : Nat} {B : kv_B} {Q : kv_Q} {kc ks n : Nat} {S : kv_SM} {I : kv_IM} {a0 : Nat} {v1 : Int32} {v2 : Int32} {r1 : Nat → Option Nat} {q2 : Nat} {r3 : Nat → Option Nat} (hO1 : S a0 = kO 3 r1) (hr2 : r1 0 = some q2) (hO3 : S q2 = kO 0 r3) (Kt : (I q2 5) ≤ v2 → kv_V y_Sto_allPlaces d B Q kc ks n S I 30 [(0, .ref a0), (1, .int v1), (2, .int v2)] []) (Kf : ¬ (I q2 5) ≤ v2 → kv_V y_Sto_allPlaces d B Q kc ks n S I 15 [(0, .ref a0), (1, .int v1), (2, .int v2)] []) : kv_V y_Sto_allPlaces d B Q kc ks n S I 4 [(0, .ref a0), (1, .int v1), (2, .int v2)] [] := by
  refine kv_iload_n dd_Sto_allPlaces_4 rfl ?_
  refine kv_aload_n dd_Sto_allPlaces_5 rfl ?_
  refine kv_getR fl_Sto_14 dd_Sto_allPlaces_6 hO1 hr2 ?_
  refine kv_getI fl_Sto_42 dd_Sto_allPlaces_9 hO3 ?_
  exact kv_icmp_ge 30 dd_Sto_allPlaces_12 (by decide) (fun h => kv_loc [0, 1, 2] rfl (Kt h)) (fun h => kv_loc [0, 1, 2] rfl (Kf h))
theorem bl_Sto_allPlaces_15 {d : Nat} {B : kv_B} {Q : kv_Q} {kc ks n : Nat} {S : kv_SM} {I : kv_IM} {a0 : Nat} {v1 : Int32} {v2 : Int32} {r1 : Nat → Option Nat} {q2 : Nat} {m3 : Nat} {j4 : Nat} (hO1 : S a0 = kO 3 r1) (hr2 : r1 1 = some q2) (hA3 : S q2 = kI m3) (hi4 : v2 = nI j4 ∧ j4 < m3 ∧ m3 < 2 ^ 31) (K : kv_V y_Sto_allPlaces d B Q kc ks n S I 4 [(0, .ref a0), (1, .int (v1 + (I q2 j4))), (2, .int (v2 + 1))] []) : kv_V y_Sto_allPlaces d B Q kc ks n S I 15 [(0, .ref a0), (1, .int v1), (2, .int v2)] [] := by
  refine kv_iload_n dd_Sto_allPlaces_15 rfl ?_
  refine kv_aload_n dd_Sto_allPlaces_16 rfl ?_
  refine kv_getR fl_Sto_20 dd_Sto_allPlaces_17 hO1 hr2 ?_
  refine kv_iload_n dd_Sto_allPlaces_20 rfl ?_
  refine kv_iald j4 dd_Sto_allPlaces_21 hA3 hi4.1 hi4.2.1 hi4.2.2 ?_
  refine kv_iadd dd_Sto_allPlaces_22 ?_
  refine kv_istore_n (L' := [(1, .int (v1 + (I q2 j4))), (0, .ref a0), (2, .int v2)]) dd_Sto_allPlaces_23 (by decide) rfl ?_
  refine kv_iinc (v := v2 + 1) (L' := [(2, .int (v2 + 1)), (1, .int (v1 + (I q2 j4))), (0, .ref a0)]) dd_Sto_allPlaces_24 rfl rfl (by decide) rfl ?_
  refine kv_goto 4 dd_Sto_allPlaces_27 (by decide) ?_
  exact kv_loc [2, 1, 0] rfl K
theorem bl_Sto_allPlaces_30 {d : Nat} {B : kv_B} {Q : kv_Q} {kc ks n : Nat} {S : kv_SM} {I : kv_IM} {a0 : Nat} {v1 : Int32} {v2 : Int32} (hQ : Q (some (.int v1)) n S I) : kv_V y_Sto_allPlaces d B Q kc ks n S I 30 [(0, .ref a0), (1, .int v1), (2, .int v2)] [] := by
  refine kv_iload_n dd_Sto_allPlaces_30 rfl ?_
  exact kv_end (v := some (.int v1)) hQ ⟨dd_Sto_allPlaces_31, .int, rfl, rfl⟩
theorem bl_Row_pairsOfOneKey_0 {d : Nat} {B : kv_B} {Q : kv_Q} {kc ks n : Nat} {S : kv_SM} {I : kv_IM} {a0 : Nat} (K : kv_V y_Row_pairsOfOneKey d B Q kc ks n S I 4 [(0, .ref a0), (1, .int 0), (2, .int 0)] []) : kv_V y_Row_pairsOfOneKey d B Q kc ks n S I 0 [(0, .ref a0)] [] := by
  refine kv_iconst (v := 0) dd_Row_pairsOfOneKey_0 (by decide) ?_
  refine kv_istore_n (L' := [(1, .int 0), (0, .ref a0)]) dd_Row_pairsOfOneKey_1 (by decide) rfl ?_
  refine kv_iconst (v := 0) dd_Row_pairsOfOneKey_2 (by decide) ?_
  refine kv_istore_n (L' := [(2, .int 0), (1, .int 0), (0, .ref a0)]) dd_Row_pairsOfOneKey_3 (by decide) rfl ?_
  exact kv_loc [2, 1, 0] rfl K
theorem bl_Row_pairsOfOneKey_4 {d : Nat} {B : kv_B} {Q : kv_Q} {kc ks n : Nat} {S : kv_SM} {I : kv_IM} {a0 : Nat} {v1 : Int32} {v2 : Int32} (Kt : 256 ≤ v2 → kv_V y_Row_pairsOfOneKey d B Q kc ks n S I 33 [(0, .ref a0), (1, .int v1), (2, .int v2)] []) (Kf : ¬ 256 ≤ v2 → kv_V y_Row_pairsOfOneKey d B Q kc ks n S I 11 [(0, .ref a0), (1, .int v1), (2, .int v2)] []) : kv_V y_Row_pairsOfOneKey d B Q kc ks n S I 4 [(0, .ref a0), (1, .int v1), (2, .int v2)] [] := by
  refine kv_iload_n dd_Row_pairsOfOneKey_4 rfl ?_
  refine kv_sipush (v := 256) dd_Row_pairsOfOneKey_5 (by decide) ?_
  exact kv_icmp_ge 33 dd_Row_pairsOfOneKey_8 (by decide) (fun h => kv_loc [0, 1, 2] rfl (Kt h)) (fun h => kv_loc [0, 1, 2] rfl (Kf h))
theorem bl_Row_pairsOfOneKey_11 {d : Nat} {B : kv_B} {Q : kv_Q} {kc ks n : Nat} {S : kv_SM} {I : kv_IM} {a0 : Nat} {v1 : Int32} {v2 : Int32} {dc kcc ksc : Nat} {Qy : kv_Q} {r1 : Nat → Option Nat} (hO1 : S a0 = kO 0 r1) (hM : kv_T y_Row_chainLength dc kcc ksc B [.ref a0, .int v2] n S I Qy) (hdp : dc + 1 ≤ d) (hkk : kcc ≤ kc) (hkl : ksc ≤ ks) (K : ∀ v n' S' I', Qy v n' S' I' → kv_V y_Row_pairsOfOneKey d B Q (kc - kcc) (ks - ksc) n' S' I' 16 [(0, .ref a0), (1, .int v1), (2, .int v2)] (v.toList ++ [])) : kv_V y_Row_pairsOfOneKey d B Q kc ks n S I 11 [(0, .ref a0), (1, .int v1), (2, .int v2)] [] := by
  refine kv_aload_n dd_Row_pairsOfOneKey_11 rfl ?_
  refine kv_iload_n dd_Row_pairsOfOneKey_12 rfl ?_
  exact kv_callV [.int v2] [] ls_Row_83 hO1 hM dd_Row_pairsOfOneKey_13 rfl hdp (Nat.le_of_ble_eq_true rfl) hkk hkl (fun v n' S' I' hv => kv_loc [0, 1, 2] rfl (K v n' S' I' hv))
theorem bl_Row_pairsOfOneKey_16 {d : Nat} {B : kv_B} {Q : kv_Q} {kc ks n : Nat} {S : kv_SM} {I : kv_IM} {a0 : Nat} {v1 : Int32} {v2 : Int32} {t0 : Int32} (K : kv_V y_Row_pairsOfOneKey d B Q kc ks n S I 4 [(0, .ref a0), (1, .int (v1 + ((t0 * (t0 - 1)) / 2))), (2, .int (v2 + 1))] []) : kv_V y_Row_pairsOfOneKey d B Q kc ks n S I 16 [(0, .ref a0), (1, .int v1), (2, .int v2)] [.int t0] := by
  refine kv_istore_n (L' := [(3, .int t0), (0, .ref a0), (1, .int v1), (2, .int v2)]) dd_Row_pairsOfOneKey_16 (by decide) rfl ?_
  refine kv_iload_n dd_Row_pairsOfOneKey_17 rfl ?_
  refine kv_iload_n dd_Row_pairsOfOneKey_18 rfl ?_
  refine kv_iload_n dd_Row_pairsOfOneKey_19 rfl ?_
  refine kv_iconst (v := 1) dd_Row_pairsOfOneKey_20 (by decide) ?_
  refine kv_isub dd_Row_pairsOfOneKey_21 ?_
  refine kv_imul dd_Row_pairsOfOneKey_22 ?_
  refine kv_iconst (v := 2) dd_Row_pairsOfOneKey_23 (by decide) ?_
  refine kv_idiv dd_Row_pairsOfOneKey_24 (by decide) ?_
  refine kv_iadd dd_Row_pairsOfOneKey_25 ?_
  refine kv_istore_n (L' := [(1, .int (v1 + ((t0 * (t0 - 1)) / 2))), (3, .int t0), (0, .ref a0), (2, .int v2)]) dd_Row_pairsOfOneKey_26 (by decide) rfl ?_
  refine kv_iinc (v := v2 + 1) (L' := [(2, .int (v2 + 1)), (1, .int (v1 + ((t0 * (t0 - 1)) / 2))), (3, .int t0), (0, .ref a0)]) dd_Row_pairsOfOneKey_27 rfl rfl (by decide) rfl ?_
  refine kv_goto 4 dd_Row_pairsOfOneKey_30 (by decide) ?_
  exact kv_loc [3, 1, 0] rfl K
theorem bl_Row_pairsOfOneKey_33 {d : Nat} {B : kv_B} {Q : kv_Q} {kc ks n : Nat} {S : kv_SM} {I : kv_IM} {a0 : Nat} {v1 : Int32} {v2 : Int32} (hQ : Q (some (.int v1)) n S I) : kv_V y_Row_pairsOfOneKey d B Q kc ks n S I 33 [(0, .ref a0), (1, .int v1), (2, .int v2)] [] := by
  refine kv_iload_n dd_Row_pairsOfOneKey_33 rfl ?_
  exact kv_end (v := some (.int v1)) hQ ⟨dd_Row_pairsOfOneKey_34, .int, rfl, rfl⟩
theorem bl_Row_chainLength_0 {d : Nat} {B : kv_B} {Q : kv_Q} {kc ks n : Nat} {S : kv_SM} {I : kv_IM} {a0 : Nat} {v1 : Int32} {r1 : Nat → Option Nat} {q2 : Nat} {m3 : Nat} {j4 : Nat} (hO1 : S a0 = kO 0 r1) (hr2 : r1 3 = some q2) (hA3 : S q2 = kI m3) (hi4 : v1 = nI j4 ∧ j4 < m3 ∧ m3 < 2 ^ 31) (K : kv_V y_Row_chainLength d B Q kc ks n S I 9 [(0, .ref a0), (1, .int v1), (2, .int 0), (3, .int (I q2 j4))] []) : kv_V y_Row_chainLength d B Q kc ks n S I 0 [(0, .ref a0), (1, .int v1)] [] := by
  refine kv_iconst (v := 0) dd_Row_chainLength_0 (by decide) ?_
  refine kv_istore_n (L' := [(2, .int 0), (0, .ref a0), (1, .int v1)]) dd_Row_chainLength_1 (by decide) rfl ?_
  refine kv_aload_n dd_Row_chainLength_2 rfl ?_
  refine kv_getR fl_Row_24 dd_Row_chainLength_3 hO1 hr2 ?_
  refine kv_iload_n dd_Row_chainLength_6 rfl ?_
  refine kv_iald j4 dd_Row_chainLength_7 hA3 hi4.1 hi4.2.1 hi4.2.2 ?_
  refine kv_istore_n (L' := [(3, .int (I q2 j4)), (2, .int 0), (0, .ref a0), (1, .int v1)]) dd_Row_chainLength_8 (by decide) rfl ?_
  exact kv_loc [2, 3, 1, 0] rfl K
theorem bl_Row_chainLength_9 {d : Nat} {B : kv_B} {Q : kv_Q} {kc ks n : Nat} {S : kv_SM} {I : kv_IM} {a0 : Nat} {v1 : Int32} {v2 : Int32} {v3 : Int32} (Kt : v3 = ((-1)) → kv_V y_Row_chainLength d B Q kc ks n S I 35 [(0, .ref a0), (1, .int v1), (2, .int v2), (3, .int v3)] []) (Kf : ¬ v3 = ((-1)) → kv_V y_Row_chainLength d B Q kc ks n S I 14 [(0, .ref a0), (1, .int v1), (2, .int v2), (3, .int v3)] []) : kv_V y_Row_chainLength d B Q kc ks n S I 9 [(0, .ref a0), (1, .int v1), (2, .int v2), (3, .int v3)] [] := by
  refine kv_iload_n dd_Row_chainLength_9 rfl ?_
  refine kv_iconst (v := (-1)) dd_Row_chainLength_10 (by decide) ?_
  exact kv_icmp_eq 35 dd_Row_chainLength_11 (by decide) (fun h => kv_loc [0, 1, 2, 3] rfl (Kt h)) (fun h => kv_loc [0, 1, 2, 3] rfl (Kf h))
theorem bl_Row_chainLength_14 {d : Nat} {B : kv_B} {Q : kv_Q} {kc ks n : Nat} {S : kv_SM} {I : kv_IM} {a0 : Nat} {v1 : Int32} {v2 : Int32} {v3 : Int32} {r1 : Nat → Option Nat} (hO1 : S a0 = kO 0 r1) (Kt : (I a0 5) ≤ v2 → kv_V y_Row_chainLength d B Q kc ks n S I 35 [(0, .ref a0), (1, .int v1), (2, .int v2), (3, .int v3)] []) (Kf : ¬ (I a0 5) ≤ v2 → kv_V y_Row_chainLength d B Q kc ks n S I 22 [(0, .ref a0), (1, .int v1), (2, .int v2), (3, .int v3)] []) : kv_V y_Row_chainLength d B Q kc ks n S I 14 [(0, .ref a0), (1, .int v1), (2, .int v2), (3, .int v3)] [] := by
  refine kv_iload_n dd_Row_chainLength_14 rfl ?_
  refine kv_aload_n dd_Row_chainLength_15 rfl ?_
  refine kv_getI fl_Row_30 dd_Row_chainLength_16 hO1 ?_
  exact kv_icmp_ge 35 dd_Row_chainLength_19 (by decide) (fun h => kv_loc [0, 1, 2, 3] rfl (Kt h)) (fun h => kv_loc [0, 1, 2, 3] rfl (Kf h))
theorem bl_Row_chainLength_22 {d : Nat} {B : kv_B} {Q : kv_Q} {kc ks n : Nat} {S : kv_SM} {I : kv_IM} {a0 : Nat} {v1 : Int32} {v2 : Int32} {v3 : Int32} {r1 : Nat → Option Nat} {q2 : Nat} {m3 : Nat} {j4 : Nat} (hO1 : S a0 = kO 0 r1) (hr2 : r1 4 = some q2) (hA3 : S q2 = kI m3) (hi4 : v3 = nI j4 ∧ j4 < m3 ∧ m3 < 2 ^ 31) (K : kv_V y_Row_chainLength d B Q kc ks n S I 9 [(0, .ref a0), (1, .int v1), (2, .int (v2 + 1)), (3, .int (I q2 j4))] []) : kv_V y_Row_chainLength d B Q kc ks n S I 22 [(0, .ref a0), (1, .int v1), (2, .int v2), (3, .int v3)] [] := by
  refine kv_iinc (v := v2 + 1) (L' := [(2, .int (v2 + 1)), (0, .ref a0), (1, .int v1), (3, .int v3)]) dd_Row_chainLength_22 rfl rfl (by decide) rfl ?_
  refine kv_aload_n dd_Row_chainLength_25 rfl ?_
  refine kv_getR fl_Row_21 dd_Row_chainLength_26 hO1 hr2 ?_
  refine kv_iload_n dd_Row_chainLength_29 rfl ?_
  refine kv_iald j4 dd_Row_chainLength_30 hA3 hi4.1 hi4.2.1 hi4.2.2 ?_
  refine kv_istore_n (L' := [(3, .int (I q2 j4)), (2, .int (v2 + 1)), (0, .ref a0), (1, .int v1)]) dd_Row_chainLength_31 (by decide) rfl ?_
  refine kv_goto 9 dd_Row_chainLength_32 (by decide) ?_
  exact kv_loc [2, 3, 1, 0] rfl K
theorem bl_Row_chainLength_35 {d : Nat} {B : kv_B} {Q : kv_Q} {kc ks n : Nat} {S : kv_SM} {I : kv_IM} {a0 : Nat} {v1 : Int32} {v2 : Int32} {v3 : Int32} (hQ : Q (some (.int v2)) n S I) : kv_V y_Row_chainLength d B Q kc ks n S I 35 [(0, .ref a0), (1, .int v1), (2, .int v2), (3, .int v3)] [] := by
  refine kv_iload_n dd_Row_chainLength_35 rfl ?_
  exact kv_end (v := some (.int v2)) hQ ⟨dd_Row_chainLength_36, .int, rfl, rfl⟩
theorem bl_Row_mostOfOneKey_0 {d : Nat} {B : kv_B} {Q : kv_Q} {kc ks n : Nat} {S : kv_SM} {I : kv_IM} {a0 : Nat} (K : kv_V y_Row_mostOfOneKey d B Q kc ks n S I 4 [(0, .ref a0), (1, .int 0), (2, .int 0)] []) : kv_V y_Row_mostOfOneKey d B Q kc ks n S I 0 [(0, .ref a0)] [] := by
  refine kv_iconst (v := 0) dd_Row_mostOfOneKey_0 (by decide) ?_
  refine kv_istore_n (L' := [(1, .int 0), (0, .ref a0)]) dd_Row_mostOfOneKey_1 (by decide) rfl ?_
  refine kv_iconst (v := 0) dd_Row_mostOfOneKey_2 (by decide) ?_
  refine kv_istore_n (L' := [(2, .int 0), (1, .int 0), (0, .ref a0)]) dd_Row_mostOfOneKey_3 (by decide) rfl ?_
  exact kv_loc [2, 1, 0] rfl K
theorem bl_Row_mostOfOneKey_4 {d : Nat} {B : kv_B} {Q : kv_Q} {kc ks n : Nat} {S : kv_SM} {I : kv_IM} {a0 : Nat} {v1 : Int32} {v2 : Int32} (Kt : 256 ≤ v2 → kv_V y_Row_mostOfOneKey d B Q kc ks n S I 27 [(0, .ref a0), (1, .int v1), (2, .int v2)] []) (Kf : ¬ 256 ≤ v2 → kv_V y_Row_mostOfOneKey d B Q kc ks n S I 11 [(0, .ref a0), (1, .int v1), (2, .int v2)] []) : kv_V y_Row_mostOfOneKey d B Q kc ks n S I 4 [(0, .ref a0), (1, .int v1), (2, .int v2)] [] := by
  refine kv_iload_n dd_Row_mostOfOneKey_4 rfl ?_
  refine kv_sipush (v := 256) dd_Row_mostOfOneKey_5 (by decide) ?_
  exact kv_icmp_ge 27 dd_Row_mostOfOneKey_8 (by decide) (fun h => kv_loc [0, 1, 2] rfl (Kt h)) (fun h => kv_loc [0, 1, 2] rfl (Kf h))
theorem bl_Row_mostOfOneKey_11 {d : Nat} {B : kv_B} {Q : kv_Q} {kc ks n : Nat} {S : kv_SM} {I : kv_IM} {a0 : Nat} {v1 : Int32} {v2 : Int32} {dc kcc ksc : Nat} {Qy : kv_Q} {r1 : Nat → Option Nat} (hO1 : S a0 = kO 0 r1) (hM : kv_T y_Row_chainLength dc kcc ksc B [.ref a0, .int v2] n S I Qy) (hdp : dc + 1 ≤ d) (hkk : kcc ≤ kc) (hkl : ksc ≤ ks) (K : ∀ v n' S' I', Qy v n' S' I' → kv_V y_Row_mostOfOneKey d B Q (kc - kcc) (ks - ksc) n' S' I' 17 [(0, .ref a0), (1, .int v1), (2, .int v2)] (v.toList ++ [.int v1])) : kv_V y_Row_mostOfOneKey d B Q kc ks n S I 11 [(0, .ref a0), (1, .int v1), (2, .int v2)] [] := by
  refine kv_iload_n dd_Row_mostOfOneKey_11 rfl ?_
  refine kv_aload_n dd_Row_mostOfOneKey_12 rfl ?_
  refine kv_iload_n dd_Row_mostOfOneKey_13 rfl ?_
  exact kv_callV [.int v2] [.int v1] ls_Row_83 hO1 hM dd_Row_mostOfOneKey_14 rfl hdp (Nat.le_of_ble_eq_true rfl) hkk hkl (fun v n' S' I' hv => kv_loc [0, 1, 2] rfl (K v n' S' I' hv))
theorem bl_Row_mostOfOneKey_17 {d : Nat} {B : kv_B} {Q : kv_Q} {kc ks n : Nat} {S : kv_SM} {I : kv_IM} {a0 : Nat} {v1 : Int32} {v2 : Int32} {t0 : Int32} {t1 : Int32} (hd1 : 1 ≤ d) (K : kv_V y_Row_mostOfOneKey d B Q kc ks n S I 4 [(0, .ref a0), (1, .int (if t1 < t0 then t0 else t1)), (2, .int (v2 + 1))] []) : kv_V y_Row_mostOfOneKey d B Q kc ks n S I 17 [(0, .ref a0), (1, .int v1), (2, .int v2)] [.int t0, .int t1] := by
  refine kv_mmax wm_Row_86 wx_max_s wi_java_lang_Math wx_max_c dd_Row_mostOfOneKey_17 hd1 (Nat.le_of_ble_eq_true rfl) ?_
  refine kv_istore_n (L' := [(1, .int (if t1 < t0 then t0 else t1)), (0, .ref a0), (2, .int v2)]) dd_Row_mostOfOneKey_20 (by decide) rfl ?_
  refine kv_iinc (v := v2 + 1) (L' := [(2, .int (v2 + 1)), (1, .int (if t1 < t0 then t0 else t1)), (0, .ref a0)]) dd_Row_mostOfOneKey_21 rfl rfl (by decide) rfl ?_
  refine kv_goto 4 dd_Row_mostOfOneKey_24 (by decide) ?_
  exact kv_loc [2, 1, 0] rfl K
theorem bl_Row_mostOfOneKey_27 {d : Nat} {B : kv_B} {Q : kv_Q} {kc ks n : Nat} {S : kv_SM} {I : kv_IM} {a0 : Nat} {v1 : Int32} {v2 : Int32} (hQ : Q (some (.int v1)) n S I) : kv_V y_Row_mostOfOneKey d B Q kc ks n S I 27 [(0, .ref a0), (1, .int v1), (2, .int v2)] [] := by
  refine kv_iload_n dd_Row_mostOfOneKey_27 rfl ?_
  exact kv_end (v := some (.int v1)) hQ ⟨dd_Row_mostOfOneKey_28, .int, rfl, rfl⟩
