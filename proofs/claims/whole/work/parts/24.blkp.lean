def kv_P (y : kv_M) (d : Nat) (B : kv_B) (as : List Value) (n : Nat) (S : kv_SM) (I : kv_IM) (Qv : Option Value → kv_IM → Prop) : Prop := kv_T y d 0 0 B as n S I (fun v n' S' I' => n' = n ∧ S' = S ∧ Qv v I')
abbrev kv_PQ (n : Nat) (S : kv_SM) (Qv : Option Value → kv_IM → Prop) : kv_Q := fun v n' S' I' => n' = n ∧ S' = S ∧ Qv v I'
theorem kv_P.of {y : kv_M} {d : Nat} {B : kv_B} {as : List Value} {n : Nat} {S : kv_SM} {I : kv_IM} {Qv : Option Value → kv_IM → Prop} (hy : plainName y.2.1.cls = true) (hcl : y.2.1.cls = y.1) (hL : (lg_sl as).length ≤ y.2.2.2.1)
    (hV : kv_V y d B (kv_PQ n S Qv) 0 0 n S I 0 (lv_args 0 as) []) : kv_P y d B as n S I Qv := kv_T.of hy hcl hL hV
theorem kv_P.mono {y : kv_M} {d : Nat} {B : kv_B} {as : List Value} {n : Nat} {S : kv_SM} {I : kv_IM} {Qv Qw : Option Value → kv_IM → Prop} (h : kv_P y d B as n S I Qv) (hq : ∀ v I', Qv v I' → Qw v I') : kv_P y d B as n S I Qw := kv_T.mono h (fun v n' S' I' hv => ⟨hv.1, hv.2.1, hq _ _ hv.2.2⟩)
theorem bp_Rul_init_18 {d : Nat} {B : kv_B} {Q : kv_Q} {kc ks n : Nat} {S : kv_SM} {I : kv_IM} {dc : Nat} {Qv : Option Value → kv_IM → Prop} {a0 : Nat} {r1 : Nat → Option Nat} (hO1 : S a0 = kO 1 r1) (hM : kv_P y_Rul_take dc B [.ref a0, .int 0, .int 4, .int 64, .int 3, .int 0, .int 1] n S I Qv) (hdp : dc + 1 ≤ d) (K : ∀ v I', Qv v I' → kv_V y_Rul_init d B Q kc ks n S I' 29 [(0, .ref a0)] (v.toList ++ [])) : kv_V y_Rul_init d B Q kc ks n S I 18 [(0, .ref a0)] [] := by
  refine bl_Rul_init_18 hO1 hM hdp (Nat.zero_le _) (Nat.zero_le _) (fun v n' S' I' hv => ?_)
  obtain ⟨e1, e2, hv⟩ := hv
  subst e1
  subst e2
  exact K v I' hv
theorem bp_Row_unchain_0 {d : Nat} {B : kv_B} {Q : kv_Q} {kc ks n : Nat} {S : kv_SM} {I : kv_IM} {dc : Nat} {Qv : Option Value → kv_IM → Prop} {a0 : Nat} {r1 : Nat → Option Nat} {q2 : Nat} (hO1 : S a0 = kO 0 r1) (hr2 : r1 3 = some q2) (hM : kv_P y_Arr_fill dc B [.ref q2, .int ((-1))] n S I Qv) (hdp : dc + 1 ≤ d) (K : ∀ v I', Qv v I' → kv_V y_Row_unchain d B Q kc ks n S I' 8 [(0, .ref a0)] (v.toList ++ [])) : kv_V y_Row_unchain d B Q kc ks n S I 0 [(0, .ref a0)] [] := by
  refine bl_Row_unchain_0 hO1 hr2 hM hdp (Nat.zero_le _) (Nat.zero_le _) (fun v n' S' I' hv => ?_)
  obtain ⟨e1, e2, hv⟩ := hv
  subst e1
  subst e2
  exact K v I' hv
theorem bp_Txt_put_13 {d : Nat} {B : kv_B} {Q : kv_Q} {kc ks n : Nat} {S : kv_SM} {I : kv_IM} {dc : Nat} {Qv : Option Value → kv_IM → Prop} {a0 : Nat} {v1 : Int32} {v2 : Int32} {r1 : Nat → Option Nat} {q2 : Nat} {r3 : Nat → Option Nat} {q4 : Nat} {m5 : Nat} {sp6 dp6 N6 : Nat} {j7 : Nat} (hd1 : 1 ≤ d) (hO1 : S a0 = kO 4 r1) (hr2 : r1 0 = some q2) (hO3 : S q2 = kO 0 r3) (hr4 : r3 0 = some q4) (hA5 : S q4 = kI m5) (hc6 : (0 < m5 ∧ 0 < m5 ∧ m5 < 2 ^ 30 ∧ m5 < 2 ^ 30) ∧ (v1 = nI sp6 ∧ v1 + 1 = nI dp6 ∧ (I a0 1) - v1 = nI N6) ∧ sp6 + N6 ≤ m5 ∧ dp6 + N6 ≤ m5) (hi7 : v1 = nI j7 ∧ j7 < m5 ∧ m5 < 2 ^ 31) (hM : kv_P y_Txt_changedTo dc B [.ref a0, .int (((kv_up (kv_cp I q4 q4 sp6 dp6 N6) q4 j7 v2) a0 1) + 1)] n S (kv_up (kv_cp I q4 q4 sp6 dp6 N6) q4 j7 v2) Qv) (hdp : dc + 1 ≤ d) (K : ∀ v I', Qv v I' → kv_V y_Txt_put d B Q kc ks n S I' 60 [(0, .ref a0), (1, .int v1), (2, .int v2)] (v.toList ++ [])) : kv_V y_Txt_put d B Q kc ks n S I 13 [(0, .ref a0), (1, .int v1), (2, .int v2)] [] := by
  refine bl_Txt_put_13 hd1 hO1 hr2 hO3 hr4 hA5 hc6 hi7 hM hdp (Nat.zero_le _) (Nat.zero_le _) (fun v n' S' I' hv => ?_)
  obtain ⟨e1, e2, hv⟩ := hv
  subst e1
  subst e2
  exact K v I' hv
theorem bp_Txt_changedTo_0 {d : Nat} {B : kv_B} {Q : kv_Q} {kc ks n : Nat} {S : kv_SM} {I : kv_IM} {dc : Nat} {Qv : Option Value → kv_IM → Prop} {a0 : Nat} {v1 : Int32} {r1 : Nat → Option Nat} (hO1 : S a0 = kO 4 r1) (hM : kv_P y_Txt_forgetCuts dc B [.ref a0] n S (kv_up I a0 1 v1) Qv) (hdp : dc + 1 ≤ d) (K : ∀ v I', Qv v I' → kv_V y_Txt_changedTo d B Q kc ks n S I' 9 [(0, .ref a0), (1, .int v1)] (v.toList ++ [])) : kv_V y_Txt_changedTo d B Q kc ks n S I 0 [(0, .ref a0), (1, .int v1)] [] := by
  refine bl_Txt_changedTo_0 hO1 hM hdp (Nat.zero_le _) (Nat.zero_le _) (fun v n' S' I' hv => ?_)
  obtain ⟨e1, e2, hv⟩ := hv
  subst e1
  subst e2
  exact K v I' hv
theorem bp_Txt_sow_66 {d : Nat} {B : kv_B} {Q : kv_Q} {kc ks n : Nat} {S : kv_SM} {I : kv_IM} {dc : Nat} {Qv : Option Value → kv_IM → Prop} {a0 : Nat} {v1 : Int32} {v2 : Int32} {v3 : Int32} {v4 : Int32} {v5 : Int32} {r1 : Nat → Option Nat} (hO1 : S a0 = kO 4 r1) (hM : kv_P y_Txt_changedTo dc B [.ref a0, .int ((I a0 1) + v1)] n S I Qv) (hdp : dc + 1 ≤ d) (K : ∀ v I', Qv v I' → kv_V y_Txt_sow d B Q kc ks n S I' 76 [(0, .ref a0), (1, .int v1), (2, .int v2), (3, .int v3), (4, .int v4), (5, .int v5)] (v.toList ++ [])) : kv_V y_Txt_sow d B Q kc ks n S I 66 [(0, .ref a0), (1, .int v1), (2, .int v2), (3, .int v3), (4, .int v4), (5, .int v5)] [] := by
  refine bl_Txt_sow_66 hO1 hM hdp (Nat.zero_le _) (Nat.zero_le _) (fun v n' S' I' hv => ?_)
  obtain ⟨e1, e2, hv⟩ := hv
  subst e1
  subst e2
  exact K v I' hv
theorem bp_Txt_take_0 {d : Nat} {B : kv_B} {Q : kv_Q} {kc ks n : Nat} {S : kv_SM} {I : kv_IM} {dc : Nat} {Qv : Option Value → kv_IM → Prop} {a0 : Nat} {v1 : Int32} {v2 : Int32} {r1 : Nat → Option Nat} {q2 : Nat} {r3 : Nat → Option Nat} {q4 : Nat} {m5 : Nat} {sp6 dp6 N6 : Nat} (hd1 : 1 ≤ d) (hO1 : S a0 = kO 4 r1) (hr2 : r1 0 = some q2) (hO3 : S q2 = kO 0 r3) (hr4 : r3 0 = some q4) (hA5 : S q4 = kI m5) (hc6 : (0 < m5 ∧ 0 < m5 ∧ m5 < 2 ^ 30 ∧ m5 < 2 ^ 30) ∧ (v1 + v2 = nI sp6 ∧ v1 = nI dp6 ∧ ((I a0 1) - v1) - v2 = nI N6) ∧ sp6 + N6 ≤ m5 ∧ dp6 + N6 ≤ m5) (hM : kv_P y_Txt_changedTo dc B [.ref a0, .int (((kv_cp I q4 q4 sp6 dp6 N6) a0 1) - v2)] n S (kv_cp I q4 q4 sp6 dp6 N6) Qv) (hdp : dc + 1 ≤ d) (K : ∀ v I', Qv v I' → kv_V y_Txt_take d B Q kc ks n S I' 39 [(0, .ref a0), (1, .int v1), (2, .int v2)] (v.toList ++ [])) : kv_V y_Txt_take d B Q kc ks n S I 0 [(0, .ref a0), (1, .int v1), (2, .int v2)] [] := by
  refine bl_Txt_take_0 hd1 hO1 hr2 hO3 hr4 hA5 hc6 hM hdp (Nat.zero_le _) (Nat.zero_le _) (fun v n' S' I' hv => ?_)
  obtain ⟨e1, e2, hv⟩ := hv
  subst e1
  subst e2
  exact K v I' hv
theorem bp_Txt_become_0 {d : Nat} {B : kv_B} {Q : kv_Q} {kc ks n : Nat} {S : kv_SM} {I : kv_IM} {dc : Nat} {Qv : Option Value → kv_IM → Prop} {a0 : Nat} {a1 : Nat} {r1 : Nat → Option Nat} {q2 : Nat} {r3 : Nat → Option Nat} {q4 : Nat} {r5 : Nat → Option Nat} {q6 : Nat} {r7 : Nat → Option Nat} {q8 : Nat} {m9 : Nat} {m10 : Nat} {sp11 dp11 N11 : Nat} (hd1 : 1 ≤ d) (hO1 : S a1 = kO 4 r1) (hr2 : r1 0 = some q2) (hO3 : S q2 = kO 0 r3) (hr4 : r3 0 = some q4) (hO5 : S a0 = kO 4 r5) (hr6 : r5 0 = some q6) (hO7 : S q6 = kO 0 r7) (hr8 : r7 0 = some q8) (hA9 : S q4 = kI m9) (hA10 : S q8 = kI m10) (hc11 : (0 < m9 ∧ 0 < m10 ∧ m9 < 2 ^ 30 ∧ m10 < 2 ^ 30) ∧ (0 = nI sp11 ∧ 0 = nI dp11 ∧ I a1 1 = nI N11) ∧ sp11 + N11 ≤ m9 ∧ dp11 + N11 ≤ m10) (hM : kv_P y_Txt_changedTo dc B [.ref a0, .int ((kv_cp I q4 q8 sp11 dp11 N11) a1 1)] n S (kv_cp I q4 q8 sp11 dp11 N11) Qv) (hdp : dc + 1 ≤ d) (K : ∀ v I', Qv v I' → kv_V y_Txt_become d B Q kc ks n S I' 31 [(0, .ref a0), (1, .ref a1)] (v.toList ++ [])) : kv_V y_Txt_become d B Q kc ks n S I 0 [(0, .ref a0), (1, .ref a1)] [] := by
  refine bl_Txt_become_0 hd1 hO1 hr2 hO3 hr4 hO5 hr6 hO7 hr8 hA9 hA10 hc11 hM hdp (Nat.zero_le _) (Nat.zero_le _) (fun v n' S' I' hv => ?_)
  obtain ⟨e1, e2, hv⟩ := hv
  subst e1
  subst e2
  exact K v I' hv
theorem bp_Txt_cutBy_25 {d : Nat} {B : kv_B} {Q : kv_Q} {kc ks n : Nat} {S : kv_SM} {I : kv_IM} {dc : Nat} {Qv : Option Value → kv_IM → Prop} {a0 : Nat} {a1 : Nat} {v2 : Int32} {r1 : Nat → Option Nat} {q2 : Nat} {r3 : Nat → Option Nat} (hO1 : S a0 = kO 4 r1) (hr2 : r1 0 = some q2) (hO3 : S q2 = kO 0 r3) (hM : kv_P y_Row_end dc B [.ref q2] n S I Qv) (hdp : dc + 1 ≤ d) (K : ∀ v I', Qv v I' → kv_V y_Txt_cutBy d B Q kc ks n S I' 32 [(0, .ref a0), (1, .ref a1), (2, .int v2)] (v.toList ++ [])) : kv_V y_Txt_cutBy d B Q kc ks n S I 25 [(0, .ref a0), (1, .ref a1), (2, .int v2)] [] := by
  refine bl_Txt_cutBy_25 hO1 hr2 hO3 hM hdp (Nat.zero_le _) (Nat.zero_le _) (fun v n' S' I' hv => ?_)
  obtain ⟨e1, e2, hv⟩ := hv
  subst e1
  subst e2
  exact K v I' hv
theorem bp_Txt_cutBy_39 {d : Nat} {B : kv_B} {Q : kv_Q} {kc ks n : Nat} {S : kv_SM} {I : kv_IM} {dc : Nat} {Qv : Option Value → kv_IM → Prop} {a0 : Nat} {a1 : Nat} {v2 : Int32} {r1 : Nat → Option Nat} {q2 : Nat} {r3 : Nat → Option Nat} {q4 : Nat} (hO1 : S a0 = kO 4 r1) (hr2 : r1 0 = some q2) (hO3 : S q2 = kO 0 r3) (hr4 : r3 0 = some q4) (hM : kv_P y_Row_end dc B [.ref q2] n S I Qv) (hdp : dc + 1 ≤ d) (K : ∀ v I', Qv v I' → kv_V y_Txt_cutBy d B Q kc ks n S I' 58 [(0, .ref a0), (1, .ref a1), (2, .int v2)] (v.toList ++ [.ref q4, .ref a1, .ref q2])) : kv_V y_Txt_cutBy d B Q kc ks n S I 39 [(0, .ref a0), (1, .ref a1), (2, .int v2)] [] := by
  refine bl_Txt_cutBy_39 hO1 hr2 hO3 hr4 hM hdp (Nat.zero_le _) (Nat.zero_le _) (fun v n' S' I' hv => ?_)
  obtain ⟨e1, e2, hv⟩ := hv
  subst e1
  subst e2
  exact K v I' hv
theorem bp_Txt_cutBy_58 {d : Nat} {B : kv_B} {Q : kv_Q} {kc ks n : Nat} {S : kv_SM} {I : kv_IM} {dc : Nat} {Qv : Option Value → kv_IM → Prop} {a0 : Nat} {a1 : Nat} {v2 : Int32} {t0 : Int32} {t1 : Nat} {t2 : Nat} {t3 : Nat} {r1 : Nat → Option Nat} {r2 : Nat → Option Nat} (hO1 : S a0 = kO 4 r1) (hO2 : S t2 = kO 1 r2) (hM : kv_P y_Rul_endOfBlock dc B [.ref t2, .ref t1, .int t0, .int (I a0 1)] n S I Qv) (hdp : dc + 1 ≤ d) (K : ∀ v I', Qv v I' → kv_V y_Txt_cutBy d B Q kc ks n S I' 65 [(0, .ref a0), (1, .ref a1), (2, .int v2)] (v.toList ++ [.ref t3])) : kv_V y_Txt_cutBy d B Q kc ks n S I 58 [(0, .ref a0), (1, .ref a1), (2, .int v2)] [.int t0, .ref t1, .ref t2, .ref t3] := by
  refine bl_Txt_cutBy_58 hO1 hO2 hM hdp (Nat.zero_le _) (Nat.zero_le _) (fun v n' S' I' hv => ?_)
  obtain ⟨e1, e2, hv⟩ := hv
  subst e1
  subst e2
  exact K v I' hv
theorem bp_Txt_cutBy_65 {d : Nat} {B : kv_B} {Q : kv_Q} {kc ks n : Nat} {S : kv_SM} {I : kv_IM} {dc : Nat} {Qv : Option Value → kv_IM → Prop} {a0 : Nat} {a1 : Nat} {v2 : Int32} {t0 : Int32} {t1 : Nat} {r1 : Nat → Option Nat} (hO1 : S t1 = kO 0 r1) (hM : kv_P y_Row_close dc B [.ref t1, .int t0] n S I Qv) (hdp : dc + 1 ≤ d) (K : ∀ v I', Qv v I' → kv_V y_Txt_cutBy d B Q kc ks n S I' 68 [(0, .ref a0), (1, .ref a1), (2, .int v2)] (v.toList ++ [])) : kv_V y_Txt_cutBy d B Q kc ks n S I 65 [(0, .ref a0), (1, .ref a1), (2, .int v2)] [.int t0, .ref t1] := by
  refine bl_Txt_cutBy_65 hO1 hM hdp (Nat.zero_le _) (Nat.zero_le _) (fun v n' S' I' hv => ?_)
  obtain ⟨e1, e2, hv⟩ := hv
  subst e1
  subst e2
  exact K v I' hv
theorem bp_Rul_endOfBlock_15 {d : Nat} {B : kv_B} {Q : kv_Q} {kc ks n : Nat} {S : kv_SM} {I : kv_IM} {dc : Nat} {Qv : Option Value → kv_IM → Prop} {a0 : Nat} {a1 : Nat} {v2 : Int32} {v3 : Int32} {v4 : Int32} {v5 : Int32} {v6 : Int32} {r1 : Nat → Option Nat} (hO1 : S a0 = kO 1 r1) (hM : kv_P y_Rul_numberWith dc B [.ref a0, .int v4, .ref a1, .int v2, .int v6] n S I Qv) (hdp : dc + 1 ≤ d) (K : ∀ v I', Qv v I' → kv_V y_Rul_endOfBlock d B Q kc ks n S I' 25 [(0, .ref a0), (1, .ref a1), (2, .int v2), (3, .int v3), (4, .int v4), (5, .int v5), (6, .int v6)] (v.toList ++ [])) : kv_V y_Rul_endOfBlock d B Q kc ks n S I 15 [(0, .ref a0), (1, .ref a1), (2, .int v2), (3, .int v3), (4, .int v4), (5, .int v5), (6, .int v6)] [] := by
  refine bl_Rul_endOfBlock_15 hO1 hM hdp (Nat.zero_le _) (Nat.zero_le _) (fun v n' S' I' hv => ?_)
  obtain ⟨e1, e2, hv⟩ := hv
  subst e1
  subst e2
  exact K v I' hv
theorem bp_Rul_endOfBlock_25 {d : Nat} {B : kv_B} {Q : kv_Q} {kc ks n : Nat} {S : kv_SM} {I : kv_IM} {dc : Nat} {Qv : Option Value → kv_IM → Prop} {a0 : Nat} {a1 : Nat} {v2 : Int32} {v3 : Int32} {v4 : Int32} {v5 : Int32} {v6 : Int32} {t0 : Int32} {r1 : Nat → Option Nat} (hO1 : S a0 = kO 1 r1) (hM : kv_P y_Rul_allowed dc B [.ref a0, .int ((v6 - v2) + 1)] n S I Qv) (hdp : dc + 1 ≤ d) (K : ∀ v I', Qv v I' → kv_V y_Rul_endOfBlock d B Q kc ks n S I' 41 [(0, .ref a0), (1, .ref a1), (2, .int v2), (3, .int v3), (4, .int t0), (5, .int v5), (6, .int v6), (7, .int ((v6 - v2) + 1))] (v.toList ++ [])) : kv_V y_Rul_endOfBlock d B Q kc ks n S I 25 [(0, .ref a0), (1, .ref a1), (2, .int v2), (3, .int v3), (4, .int v4), (5, .int v5), (6, .int v6)] [.int t0] := by
  refine bl_Rul_endOfBlock_25 hO1 hM hdp (Nat.zero_le _) (Nat.zero_le _) (fun v n' S' I' hv => ?_)
  obtain ⟨e1, e2, hv⟩ := hv
  subst e1
  subst e2
  exact K v I' hv
theorem bp_Rul_endOfBlock_47 {d : Nat} {B : kv_B} {Q : kv_Q} {kc ks n : Nat} {S : kv_SM} {I : kv_IM} {dc : Nat} {Qv : Option Value → kv_IM → Prop} {a0 : Nat} {a1 : Nat} {v2 : Int32} {v3 : Int32} {v4 : Int32} {v5 : Int32} {v6 : Int32} {v7 : Int32} {r1 : Nat → Option Nat} (hO1 : S a0 = kO 1 r1) (hM : kv_P y_Rul_marksAt dc B [.ref a0, .int v7] n S I Qv) (hdp : dc + 1 ≤ d) (K : ∀ v I', Qv v I' → kv_V y_Rul_endOfBlock d B Q kc ks n S I' 55 [(0, .ref a0), (1, .ref a1), (2, .int v2), (3, .int v3), (4, .int v4), (5, .int v5), (6, .int v6), (7, .int v7)] (v.toList ++ [.int v4])) : kv_V y_Rul_endOfBlock d B Q kc ks n S I 47 [(0, .ref a0), (1, .ref a1), (2, .int v2), (3, .int v3), (4, .int v4), (5, .int v5), (6, .int v6), (7, .int v7)] [] := by
  refine bl_Rul_endOfBlock_47 hO1 hM hdp (Nat.zero_le _) (Nat.zero_le _) (fun v n' S' I' hv => ?_)
  obtain ⟨e1, e2, hv⟩ := hv
  subst e1
  subst e2
  exact K v I' hv
theorem bp_Rul_endOfBlock_55 {d : Nat} {B : kv_B} {Q : kv_Q} {kc ks n : Nat} {S : kv_SM} {I : kv_IM} {dc : Nat} {Qv : Option Value → kv_IM → Prop} {a0 : Nat} {a1 : Nat} {v2 : Int32} {v3 : Int32} {v4 : Int32} {v5 : Int32} {v6 : Int32} {v7 : Int32} {t0 : Int32} {t1 : Int32}  (hM : kv_P y_Rul_marked dc B [.int t1, .int t0] n S I Qv) (hdp : dc + 1 ≤ d) (K : ∀ v I', Qv v I' → kv_V y_Rul_endOfBlock d B Q kc ks n S I' 58 [(0, .ref a0), (1, .ref a1), (2, .int v2), (3, .int v3), (4, .int v4), (5, .int v5), (6, .int v6), (7, .int v7)] (v.toList ++ [])) : kv_V y_Rul_endOfBlock d B Q kc ks n S I 55 [(0, .ref a0), (1, .ref a1), (2, .int v2), (3, .int v3), (4, .int v4), (5, .int v5), (6, .int v6), (7, .int v7)] [.int t0, .int t1] := by
  refine bl_Rul_endOfBlock_55  hM hdp (Nat.zero_le _) (Nat.zero_le _) (fun v n' S' I' hv => ?_)
  obtain ⟨e1, e2, hv⟩ := hv
  subst e1
  subst e2
  exact K v I' hv
theorem bp_Rul_endOfBlock_104 {d : Nat} {B : kv_B} {Q : kv_Q} {kc ks n : Nat} {S : kv_SM} {I : kv_IM} {dc : Nat} {Qv : Option Value → kv_IM → Prop} {a0 : Nat} {a1 : Nat} {v2 : Int32} {v3 : Int32} {v4 : Int32} {v5 : Int32} {v6 : Int32} {v7 : Int32} {r1 : Nat → Option Nat} (hO1 : S a0 = kO 1 r1) (hM : kv_P y_Rul_marked dc B [.int v4, .int ((I a0 4) - (I a0 5))] n S I Qv) (hdp : dc + 1 ≤ d) (K : ∀ v I', Qv v I' → kv_V y_Rul_endOfBlock d B Q kc ks n S I' 118 [(0, .ref a0), (1, .ref a1), (2, .int v2), (3, .int v3), (4, .int v4), (5, .int v5), (6, .int v6), (7, .int v7)] (v.toList ++ [])) : kv_V y_Rul_endOfBlock d B Q kc ks n S I 104 [(0, .ref a0), (1, .ref a1), (2, .int v2), (3, .int v3), (4, .int v4), (5, .int v5), (6, .int v6), (7, .int v7)] [] := by
  refine bl_Rul_endOfBlock_104 hO1 hM hdp (Nat.zero_le _) (Nat.zero_le _) (fun v n' S' I' hv => ?_)
  obtain ⟨e1, e2, hv⟩ := hv
  subst e1
  subst e2
  exact K v I' hv
theorem bp_Rul_numberWith_26 {d : Nat} {B : kv_B} {Q : kv_Q} {kc ks n : Nat} {S : kv_SM} {I : kv_IM} {dc : Nat} {Qv : Option Value → kv_IM → Prop} {a0 : Nat} {v1 : Int32} {a2 : Nat} {v3 : Int32} {v4 : Int32} {v5 : Int32}  (hM : kv_P y_Rul_turnedLeft dc B [.int v1, .int 1] n S I Qv) (hdp : dc + 1 ≤ d) (K : ∀ v I', Qv v I' → kv_V y_Rul_numberWith d B Q kc ks n S I' 31 [(0, .ref a0), (1, .int v1), (2, .ref a2), (3, .int v3), (4, .int v4), (5, .int v5)] (v.toList ++ [])) : kv_V y_Rul_numberWith d B Q kc ks n S I 26 [(0, .ref a0), (1, .int v1), (2, .ref a2), (3, .int v3), (4, .int v4), (5, .int v5)] [] := by
  refine bl_Rul_numberWith_26  hM hdp (Nat.zero_le _) (Nat.zero_le _) (fun v n' S' I' hv => ?_)
  obtain ⟨e1, e2, hv⟩ := hv
  subst e1
  subst e2
  exact K v I' hv
theorem bp_Rul_numberWith_48 {d : Nat} {B : kv_B} {Q : kv_Q} {kc ks n : Nat} {S : kv_SM} {I : kv_IM} {dc : Nat} {Qv : Option Value → kv_IM → Prop} {a0 : Nat} {v1 : Int32} {a2 : Nat} {v3 : Int32} {v4 : Int32} {v5 : Int32} {v6 : Int32} {r1 : Nat → Option Nat} {q2 : Nat} {m3 : Nat} {j4 : Nat} {m5 : Nat} {j6 : Nat} (hO1 : S a0 = kO 1 r1) (hr2 : r1 0 = some q2) (hA3 : S a2 = kI m3) (hi4 : v4 - 16 = nI j4 ∧ j4 < m3 ∧ m3 < 2 ^ 31) (hA5 : S q2 = kI m5) (hi6 : I a2 j4 = nI j6 ∧ j6 < m5 ∧ m5 < 2 ^ 31) (hM : kv_P y_Rul_turnedLeft dc B [.int (I q2 j6), .int 16] n S I Qv) (hdp : dc + 1 ≤ d) (K : ∀ v I', Qv v I' → kv_V y_Rul_numberWith d B Q kc ks n S I' 67 [(0, .ref a0), (1, .int v1), (2, .ref a2), (3, .int v3), (4, .int v4), (5, .int v5), (6, .int v6)] (v.toList ++ [.int v6])) : kv_V y_Rul_numberWith d B Q kc ks n S I 48 [(0, .ref a0), (1, .int v1), (2, .ref a2), (3, .int v3), (4, .int v4), (5, .int v5), (6, .int v6)] [] := by
  refine bl_Rul_numberWith_48 hO1 hr2 hA3 hi4 hA5 hi6 hM hdp (Nat.zero_le _) (Nat.zero_le _) (fun v n' S' I' hv => ?_)
  obtain ⟨e1, e2, hv⟩ := hv
  subst e1
  subst e2
  exact K v I' hv
theorem bp_Rul_numberAt_12 {d : Nat} {B : kv_B} {Q : kv_Q} {kc ks n : Nat} {S : kv_SM} {I : kv_IM} {dc : Nat} {Qv : Option Value → kv_IM → Prop} {a0 : Nat} {a1 : Nat} {v2 : Int32} {v3 : Int32} {v4 : Int32} {v5 : Int32} {r1 : Nat → Option Nat} (hO1 : S a0 = kO 1 r1) (hM : kv_P y_Rul_numberWith dc B [.ref a0, .int v4, .ref a1, .int v2, .int v5] n S I Qv) (hdp : dc + 1 ≤ d) (K : ∀ v I', Qv v I' → kv_V y_Rul_numberAt d B Q kc ks n S I' 22 [(0, .ref a0), (1, .ref a1), (2, .int v2), (3, .int v3), (4, .int v4), (5, .int v5)] (v.toList ++ [])) : kv_V y_Rul_numberAt d B Q kc ks n S I 12 [(0, .ref a0), (1, .ref a1), (2, .int v2), (3, .int v3), (4, .int v4), (5, .int v5)] [] := by
  refine bl_Rul_numberAt_12 hO1 hM hdp (Nat.zero_le _) (Nat.zero_le _) (fun v n' S' I' hv => ?_)
  obtain ⟨e1, e2, hv⟩ := hv
  subst e1
  subst e2
  exact K v I' hv
theorem bp_Txt_indexBy_0 {d : Nat} {B : kv_B} {Q : kv_Q} {kc ks n : Nat} {S : kv_SM} {I : kv_IM} {dc : Nat} {Qv : Option Value → kv_IM → Prop} {a0 : Nat} {a1 : Nat} {r1 : Nat → Option Nat} (hO1 : S a0 = kO 4 r1) (hM : kv_P y_Txt_cutBy dc B [.ref a0, .ref a1] n S I Qv) (hdp : dc + 1 ≤ d) (K : ∀ v I', Qv v I' → kv_V y_Txt_indexBy d B Q kc ks n S I' 5 [(0, .ref a0), (1, .ref a1)] (v.toList ++ [])) : kv_V y_Txt_indexBy d B Q kc ks n S I 0 [(0, .ref a0), (1, .ref a1)] [] := by
  refine bl_Txt_indexBy_0 hO1 hM hdp (Nat.zero_le _) (Nat.zero_le _) (fun v n' S' I' hv => ?_)
  obtain ⟨e1, e2, hv⟩ := hv
  subst e1
  subst e2
  exact K v I' hv
theorem bp_Txt_indexBy_12 {d : Nat} {B : kv_B} {Q : kv_Q} {kc ks n : Nat} {S : kv_SM} {I : kv_IM} {dc : Nat} {Qv : Option Value → kv_IM → Prop} {a0 : Nat} {a1 : Nat} {r1 : Nat → Option Nat} {q2 : Nat} {r3 : Nat → Option Nat} (hO1 : S a0 = kO 4 r1) (hr2 : r1 0 = some q2) (hO3 : S q2 = kO 0 r3) (hM : kv_P y_Row_index dc B [.ref q2] n S I Qv) (hdp : dc + 1 ≤ d) (K : ∀ v I', Qv v I' → kv_V y_Txt_indexBy d B Q kc ks n S I' 19 [(0, .ref a0), (1, .ref a1)] (v.toList ++ [])) : kv_V y_Txt_indexBy d B Q kc ks n S I 12 [(0, .ref a0), (1, .ref a1)] [] := by
  refine bl_Txt_indexBy_12 hO1 hr2 hO3 hM hdp (Nat.zero_le _) (Nat.zero_le _) (fun v n' S' I' hv => ?_)
  obtain ⟨e1, e2, hv⟩ := hv
  subst e1
  subst e2
  exact K v I' hv
theorem bp_Row_index_0 {d : Nat} {B : kv_B} {Q : kv_Q} {kc ks n : Nat} {S : kv_SM} {I : kv_IM} {dc : Nat} {Qv : Option Value → kv_IM → Prop} {a0 : Nat} {r1 : Nat → Option Nat} (hO1 : S a0 = kO 0 r1) (hM : kv_P y_Row_unchain dc B [.ref a0] n S I Qv) (hdp : dc + 1 ≤ d) (K : ∀ v I', Qv v I' → kv_V y_Row_index d B Q kc ks n S I' 4 [(0, .ref a0)] (v.toList ++ [])) : kv_V y_Row_index d B Q kc ks n S I 0 [(0, .ref a0)] [] := by
  refine bl_Row_index_0 hO1 hM hdp (Nat.zero_le _) (Nat.zero_le _) (fun v n' S' I' hv => ?_)
  obtain ⟨e1, e2, hv⟩ := hv
  subst e1
  subst e2
  exact K v I' hv
theorem bp_Row_index_14 {d : Nat} {B : kv_B} {Q : kv_Q} {kc ks n : Nat} {S : kv_SM} {I : kv_IM} {dc : Nat} {Qv : Option Value → kv_IM → Prop} {a0 : Nat} {v1 : Int32} {r1 : Nat → Option Nat} {q2 : Nat} (hO1 : S a0 = kO 0 r1) (hr2 : r1 2 = some q2) (hM : kv_P y_Row_mixedSum dc B [.ref a0, .int v1] n S I Qv) (hdp : dc + 1 ≤ d) (K : ∀ v I', Qv v I' → kv_V y_Row_index d B Q kc ks n S I' 24 [(0, .ref a0), (1, .int v1)] (v.toList ++ [.int v1, .ref q2])) : kv_V y_Row_index d B Q kc ks n S I 14 [(0, .ref a0), (1, .int v1)] [] := by
  refine bl_Row_index_14 hO1 hr2 hM hdp (Nat.zero_le _) (Nat.zero_le _) (fun v n' S' I' hv => ?_)
  obtain ⟨e1, e2, hv⟩ := hv
  subst e1
  subst e2
  exact K v I' hv
theorem bp_Row_index_24 {d : Nat} {B : kv_B} {Q : kv_Q} {kc ks n : Nat} {S : kv_SM} {I : kv_IM} {dc : Nat} {Qv : Option Value → kv_IM → Prop} {a0 : Nat} {v1 : Int32} {t0 : Int32} {t1 : Int32} {t2 : Nat} {m1 : Nat} {j2 : Nat} {r3 : Nat → Option Nat} (hA1 : S t2 = kI m1) (hi2 : t1 = nI j2 ∧ j2 < m1 ∧ m1 < 2 ^ 31) (hO3 : S a0 = kO 0 r3) (hM : kv_P y_Row_find dc B [.ref a0, .ref a0, .int v1] n S (kv_up I t2 j2 t0) Qv) (hdp : dc + 1 ≤ d) (K : ∀ v I', Qv v I' → kv_V y_Row_index d B Q kc ks n S I' 31 [(0, .ref a0), (1, .int v1)] (v.toList ++ [])) : kv_V y_Row_index d B Q kc ks n S I 24 [(0, .ref a0), (1, .int v1)] [.int t0, .int t1, .ref t2] := by
  refine bl_Row_index_24 hA1 hi2 hO3 hM hdp (Nat.zero_le _) (Nat.zero_le _) (fun v n' S' I' hv => ?_)
  obtain ⟨e1, e2, hv⟩ := hv
  subst e1
  subst e2
  exact K v I' hv
theorem bp_Row_index_35 {d : Nat} {B : kv_B} {Q : kv_Q} {kc ks n : Nat} {S : kv_SM} {I : kv_IM} {dc : Nat} {Qv : Option Value → kv_IM → Prop} {a0 : Nat} {v1 : Int32} {r1 : Nat → Option Nat} (hO1 : S a0 = kO 0 r1) (hM : kv_P y_Row_chain dc B [.ref a0, .int v1] n S I Qv) (hdp : dc + 1 ≤ d) (K : ∀ v I', Qv v I' → kv_V y_Row_index d B Q kc ks n S I' 40 [(0, .ref a0), (1, .int v1)] (v.toList ++ [])) : kv_V y_Row_index d B Q kc ks n S I 35 [(0, .ref a0), (1, .int v1)] [] := by
  refine bl_Row_index_35 hO1 hM hdp (Nat.zero_le _) (Nat.zero_le _) (fun v n' S' I' hv => ?_)
  obtain ⟨e1, e2, hv⟩ := hv
  subst e1
  subst e2
  exact K v I' hv
theorem bp_Row_find_33 {d : Nat} {B : kv_B} {Q : kv_Q} {kc ks n : Nat} {S : kv_SM} {I : kv_IM} {dc : Nat} {Qv : Option Value → kv_IM → Prop} {a0 : Nat} {a1 : Nat} {v2 : Int32} {v3 : Int32} {v4 : Int32} {r1 : Nat → Option Nat} (hO1 : S a0 = kO 0 r1) (hM : kv_P y_Row_isLike dc B [.ref a0, .int v3, .ref a1, .int v2] n S I Qv) (hdp : dc + 1 ≤ d) (K : ∀ v I', Qv v I' → kv_V y_Row_find d B Q kc ks n S I' 40 [(0, .ref a0), (1, .ref a1), (2, .int v2), (3, .int v3), (4, .int v4)] (v.toList ++ [])) : kv_V y_Row_find d B Q kc ks n S I 33 [(0, .ref a0), (1, .ref a1), (2, .int v2), (3, .int v3), (4, .int v4)] [] := by
  refine bl_Row_find_33 hO1 hM hdp (Nat.zero_le _) (Nat.zero_le _) (fun v n' S' I' hv => ?_)
  obtain ⟨e1, e2, hv⟩ := hv
  subst e1
  subst e2
  exact K v I' hv
theorem bp_Row_isLike_15 {d : Nat} {B : kv_B} {Q : kv_Q} {kc ks n : Nat} {S : kv_SM} {I : kv_IM} {dc : Nat} {Qv : Option Value → kv_IM → Prop} {a0 : Nat} {v1 : Int32} {a2 : Nat} {v3 : Int32} {r1 : Nat → Option Nat} (hO1 : S a0 = kO 0 r1) (hM : kv_P y_Row_bytesOf dc B [.ref a0, .int v1] n S I Qv) (hdp : dc + 1 ≤ d) (K : ∀ v I', Qv v I' → kv_V y_Row_isLike d B Q kc ks n S I' 20 [(0, .ref a0), (1, .int v1), (2, .ref a2), (3, .int v3)] (v.toList ++ [])) : kv_V y_Row_isLike d B Q kc ks n S I 15 [(0, .ref a0), (1, .int v1), (2, .ref a2), (3, .int v3)] [] := by
  refine bl_Row_isLike_15 hO1 hM hdp (Nat.zero_le _) (Nat.zero_le _) (fun v n' S' I' hv => ?_)
  obtain ⟨e1, e2, hv⟩ := hv
  subst e1
  subst e2
  exact K v I' hv
theorem bp_Row_isLike_20 {d : Nat} {B : kv_B} {Q : kv_Q} {kc ks n : Nat} {S : kv_SM} {I : kv_IM} {dc : Nat} {Qv : Option Value → kv_IM → Prop} {a0 : Nat} {v1 : Int32} {a2 : Nat} {v3 : Int32} {t0 : Int32} {r1 : Nat → Option Nat} (hO1 : S a2 = kO 0 r1) (hM : kv_P y_Row_bytesOf dc B [.ref a2, .int v3] n S I Qv) (hdp : dc + 1 ≤ d) (K : ∀ v I', Qv v I' → kv_V y_Row_isLike d B Q kc ks n S I' 25 [(0, .ref a0), (1, .int v1), (2, .ref a2), (3, .int v3)] (v.toList ++ [.int t0])) : kv_V y_Row_isLike d B Q kc ks n S I 20 [(0, .ref a0), (1, .int v1), (2, .ref a2), (3, .int v3)] [.int t0] := by
  refine bl_Row_isLike_20 hO1 hM hdp (Nat.zero_le _) (Nat.zero_le _) (fun v n' S' I' hv => ?_)
  obtain ⟨e1, e2, hv⟩ := hv
  subst e1
  subst e2
  exact K v I' hv
theorem bp_Row_isLike_30 {d : Nat} {B : kv_B} {Q : kv_Q} {kc ks n : Nat} {S : kv_SM} {I : kv_IM} {dc : Nat} {Qv : Option Value → kv_IM → Prop} {a0 : Nat} {v1 : Int32} {a2 : Nat} {v3 : Int32} {r1 : Nat → Option Nat} {q2 : Nat} {m3 : Nat} {j4 : Nat} {r5 : Nat → Option Nat} {q6 : Nat} {m7 : Nat} {j8 : Nat} (hO1 : S a0 = kO 0 r1) (hr2 : r1 1 = some q2) (hA3 : S q2 = kI m3) (hi4 : v1 = nI j4 ∧ j4 < m3 ∧ m3 < 2 ^ 31) (hO5 : S a2 = kO 0 r5) (hr6 : r5 1 = some q6) (hA7 : S q6 = kI m7) (hi8 : v3 = nI j8 ∧ j8 < m7 ∧ m7 < 2 ^ 31) (hM : kv_P y_Row_bytesOf dc B [.ref a0, .int v1] n S I Qv) (hdp : dc + 1 ≤ d) (K : ∀ v I', Qv v I' → kv_V y_Row_isLike d B Q kc ks n S I' 51 [(0, .ref a0), (1, .int v1), (2, .ref a2), (3, .int v3), (4, .int (I q2 j4)), (5, .int (I q6 j8))] (v.toList ++ [])) : kv_V y_Row_isLike d B Q kc ks n S I 30 [(0, .ref a0), (1, .int v1), (2, .ref a2), (3, .int v3)] [] := by
  refine bl_Row_isLike_30 hO1 hr2 hA3 hi4 hO5 hr6 hA7 hi8 hM hdp (Nat.zero_le _) (Nat.zero_le _) (fun v n' S' I' hv => ?_)
  obtain ⟨e1, e2, hv⟩ := hv
  subst e1
  subst e2
  exact K v I' hv
theorem bp_Row_blocksIn_12 {d : Nat} {B : kv_B} {Q : kv_Q} {kc ks n : Nat} {S : kv_SM} {I : kv_IM} {dc : Nat} {Qv : Option Value → kv_IM → Prop} {a0 : Nat} {a1 : Nat} {v2 : Int32} {v3 : Int32} {r1 : Nat → Option Nat} (hO1 : S a1 = kO 0 r1) (hM : kv_P y_Row_find dc B [.ref a1, .ref a0, .int v3] n S I Qv) (hdp : dc + 1 ≤ d) (K : ∀ v I', Qv v I' → kv_V y_Row_blocksIn d B Q kc ks n S I' 18 [(0, .ref a0), (1, .ref a1), (2, .int v2), (3, .int v3)] (v.toList ++ [])) : kv_V y_Row_blocksIn d B Q kc ks n S I 12 [(0, .ref a0), (1, .ref a1), (2, .int v2), (3, .int v3)] [] := by
  refine bl_Row_blocksIn_12 hO1 hM hdp (Nat.zero_le _) (Nat.zero_le _) (fun v n' S' I' hv => ?_)
  obtain ⟨e1, e2, hv⟩ := hv
  subst e1
  subst e2
  exact K v I' hv
theorem bp_Row_bytesIn_12 {d : Nat} {B : kv_B} {Q : kv_Q} {kc ks n : Nat} {S : kv_SM} {I : kv_IM} {dc : Nat} {Qv : Option Value → kv_IM → Prop} {a0 : Nat} {a1 : Nat} {v2 : Int32} {v3 : Int32} {r1 : Nat → Option Nat} (hO1 : S a1 = kO 0 r1) (hM : kv_P y_Row_find dc B [.ref a1, .ref a0, .int v3] n S I Qv) (hdp : dc + 1 ≤ d) (K : ∀ v I', Qv v I' → kv_V y_Row_bytesIn d B Q kc ks n S I' 18 [(0, .ref a0), (1, .ref a1), (2, .int v2), (3, .int v3)] (v.toList ++ [])) : kv_V y_Row_bytesIn d B Q kc ks n S I 12 [(0, .ref a0), (1, .ref a1), (2, .int v2), (3, .int v3)] [] := by
  refine bl_Row_bytesIn_12 hO1 hM hdp (Nat.zero_le _) (Nat.zero_le _) (fun v n' S' I' hv => ?_)
  obtain ⟨e1, e2, hv⟩ := hv
  subst e1
  subst e2
  exact K v I' hv
theorem bp_Row_bytesIn_22 {d : Nat} {B : kv_B} {Q : kv_Q} {kc ks n : Nat} {S : kv_SM} {I : kv_IM} {dc : Nat} {Qv : Option Value → kv_IM → Prop} {a0 : Nat} {a1 : Nat} {v2 : Int32} {v3 : Int32} {r1 : Nat → Option Nat} (hO1 : S a0 = kO 0 r1) (hM : kv_P y_Row_bytesOf dc B [.ref a0, .int v3] n S I Qv) (hdp : dc + 1 ≤ d) (K : ∀ v I', Qv v I' → kv_V y_Row_bytesIn d B Q kc ks n S I' 28 [(0, .ref a0), (1, .ref a1), (2, .int v2), (3, .int v3)] (v.toList ++ [.int v2])) : kv_V y_Row_bytesIn d B Q kc ks n S I 22 [(0, .ref a0), (1, .ref a1), (2, .int v2), (3, .int v3)] [] := by
  refine bl_Row_bytesIn_22 hO1 hM hdp (Nat.zero_le _) (Nat.zero_le _) (fun v n' S' I' hv => ?_)
  obtain ⟨e1, e2, hv⟩ := hv
  subst e1
  subst e2
  exact K v I' hv
theorem bp_Row_firstLike_19 {d : Nat} {B : kv_B} {Q : kv_Q} {kc ks n : Nat} {S : kv_SM} {I : kv_IM} {dc : Nat} {Qv : Option Value → kv_IM → Prop} {a0 : Nat} {a1 : Nat} {v2 : Int32} {v3 : Int32} {r1 : Nat → Option Nat} (hO1 : S a0 = kO 0 r1) (hM : kv_P y_Row_isLike dc B [.ref a0, .int v3, .ref a1, .int v3] n S I Qv) (hdp : dc + 1 ≤ d) (K : ∀ v I', Qv v I' → kv_V y_Row_firstLike d B Q kc ks n S I' 26 [(0, .ref a0), (1, .ref a1), (2, .int v2), (3, .int v3)] (v.toList ++ [])) : kv_V y_Row_firstLike d B Q kc ks n S I 19 [(0, .ref a0), (1, .ref a1), (2, .int v2), (3, .int v3)] [] := by
  refine bl_Row_firstLike_19 hO1 hM hdp (Nat.zero_le _) (Nat.zero_le _) (fun v n' S' I' hv => ?_)
  obtain ⟨e1, e2, hv⟩ := hv
  subst e1
  subst e2
  exact K v I' hv
theorem bp_Row_lastLike_19 {d : Nat} {B : kv_B} {Q : kv_Q} {kc ks n : Nat} {S : kv_SM} {I : kv_IM} {dc : Nat} {Qv : Option Value → kv_IM → Prop} {a0 : Nat} {a1 : Nat} {v2 : Int32} {v3 : Int32} {r1 : Nat → Option Nat} {r2 : Nat → Option Nat} (hO1 : S a0 = kO 0 r1) (hO2 : S a1 = kO 0 r2) (hM : kv_P y_Row_isLike dc B [.ref a0, .int (((I a0 5) - 1) - v3), .ref a1, .int (((I a1 5) - 1) - v3)] n S I Qv) (hdp : dc + 1 ≤ d) (K : ∀ v I', Qv v I' → kv_V y_Row_lastLike d B Q kc ks n S I' 40 [(0, .ref a0), (1, .ref a1), (2, .int v2), (3, .int v3)] (v.toList ++ [])) : kv_V y_Row_lastLike d B Q kc ks n S I 19 [(0, .ref a0), (1, .ref a1), (2, .int v2), (3, .int v3)] [] := by
  refine bl_Row_lastLike_19 hO1 hO2 hM hdp (Nat.zero_le _) (Nat.zero_le _) (fun v n' S' I' hv => ?_)
  obtain ⟨e1, e2, hv⟩ := hv
  subst e1
  subst e2
  exact K v I' hv
theorem bp_Sto_takeIn_0 {d : Nat} {B : kv_B} {Q : kv_Q} {kc ks n : Nat} {S : kv_SM} {I : kv_IM} {dc : Nat} {Qv : Option Value → kv_IM → Prop} {a0 : Nat} {a1 : Nat} {r1 : Nat → Option Nat} (hO1 : S a0 = kO 3 r1) (hM : kv_P y_Sto_leastFree dc B [.ref a0] n S I Qv) (hdp : dc + 1 ≤ d) (K : ∀ v I', Qv v I' → kv_V y_Sto_takeIn d B Q kc ks n S I' 4 [(0, .ref a0), (1, .ref a1)] (v.toList ++ [])) : kv_V y_Sto_takeIn d B Q kc ks n S I 0 [(0, .ref a0), (1, .ref a1)] [] := by
  refine bl_Sto_takeIn_0 hO1 hM hdp (Nat.zero_le _) (Nat.zero_le _) (fun v n' S' I' hv => ?_)
  obtain ⟨e1, e2, hv⟩ := hv
  subst e1
  subst e2
  exact K v I' hv
theorem bp_Sto_takeIn_32 {d : Nat} {B : kv_B} {Q : kv_Q} {kc ks n : Nat} {S : kv_SM} {I : kv_IM} {dc : Nat} {Qv : Option Value → kv_IM → Prop} {a0 : Nat} {a1 : Nat} {v2 : Int32} {a3 : Nat} {v4 : Int32} {r1 : Nat → Option Nat} {q2 : Nat} {r3 : Nat → Option Nat} (hO1 : S a0 = kO 3 r1) (hr2 : r1 0 = some q2) (hO3 : S q2 = kO 0 r3) (hM : kv_P y_Row_find dc B [.ref q2, .ref a1, .int v4] n S I Qv) (hdp : dc + 1 ≤ d) (K : ∀ v I', Qv v I' → kv_V y_Sto_takeIn d B Q kc ks n S I' 42 [(0, .ref a0), (1, .ref a1), (2, .int v2), (3, .ref a3), (4, .int v4)] (v.toList ++ [])) : kv_V y_Sto_takeIn d B Q kc ks n S I 32 [(0, .ref a0), (1, .ref a1), (2, .int v2), (3, .ref a3), (4, .int v4)] [] := by
  refine bl_Sto_takeIn_32 hO1 hr2 hO3 hM hdp (Nat.zero_le _) (Nat.zero_le _) (fun v n' S' I' hv => ?_)
  obtain ⟨e1, e2, hv⟩ := hv
  subst e1
  subst e2
  exact K v I' hv
theorem bp_Sto_takeIn_50 {d : Nat} {B : kv_B} {Q : kv_Q} {kc ks n : Nat} {S : kv_SM} {I : kv_IM} {dc : Nat} {Qv : Option Value → kv_IM → Prop} {a0 : Nat} {a1 : Nat} {v2 : Int32} {a3 : Nat} {v4 : Int32} {v5 : Int32} {r1 : Nat → Option Nat} {q2 : Nat} {r3 : Nat → Option Nat} (hO1 : S a0 = kO 3 r1) (hr2 : r1 0 = some q2) (hO3 : S a1 = kO 0 r3) (hM : kv_P y_Row_bytesOf dc B [.ref a1, .int v4] n S I Qv) (hdp : dc + 1 ≤ d) (K : ∀ v I', Qv v I' → kv_V y_Sto_takeIn d B Q kc ks n S I' 60 [(0, .ref a0), (1, .ref a1), (2, .int v2), (3, .ref a3), (4, .int v4), (5, .int v5)] (v.toList ++ [.ref q2])) : kv_V y_Sto_takeIn d B Q kc ks n S I 50 [(0, .ref a0), (1, .ref a1), (2, .int v2), (3, .ref a3), (4, .int v4), (5, .int v5)] [] := by
  refine bl_Sto_takeIn_50 hO1 hr2 hO3 hM hdp (Nat.zero_le _) (Nat.zero_le _) (fun v n' S' I' hv => ?_)
  obtain ⟨e1, e2, hv⟩ := hv
  subst e1
  subst e2
  exact K v I' hv
theorem bp_Sto_takeIn_60 {d : Nat} {B : kv_B} {Q : kv_Q} {kc ks n : Nat} {S : kv_SM} {I : kv_IM} {dc : Nat} {Qv : Option Value → kv_IM → Prop} {a0 : Nat} {a1 : Nat} {v2 : Int32} {a3 : Nat} {v4 : Int32} {v5 : Int32} {t0 : Int32} {t1 : Nat} {r1 : Nat → Option Nat} (hO1 : S t1 = kO 0 r1) (hM : kv_P y_Row_hasRoomFor dc B [.ref t1, .int t0] n S I Qv) (hdp : dc + 1 ≤ d) (K : ∀ v I', Qv v I' → kv_V y_Sto_takeIn d B Q kc ks n S I' 63 [(0, .ref a0), (1, .ref a1), (2, .int v2), (3, .ref a3), (4, .int v4), (5, .int v5)] (v.toList ++ [])) : kv_V y_Sto_takeIn d B Q kc ks n S I 60 [(0, .ref a0), (1, .ref a1), (2, .int v2), (3, .ref a3), (4, .int v4), (5, .int v5)] [.int t0, .ref t1] := by
  refine bl_Sto_takeIn_60 hO1 hM hdp (Nat.zero_le _) (Nat.zero_le _) (fun v n' S' I' hv => ?_)
  obtain ⟨e1, e2, hv⟩ := hv
  subst e1
  subst e2
  exact K v I' hv
theorem bp_Sto_takeIn_66 {d : Nat} {B : kv_B} {Q : kv_Q} {kc ks n : Nat} {S : kv_SM} {I : kv_IM} {dc : Nat} {Qv : Option Value → kv_IM → Prop} {a0 : Nat} {a1 : Nat} {v2 : Int32} {a3 : Nat} {v4 : Int32} {v5 : Int32} {r1 : Nat → Option Nat} (hO1 : S a0 = kO 3 r1) (hM : kv_P y_Sto_sweep dc B [.ref a0] n S I Qv) (hdp : dc + 1 ≤ d) (K : ∀ v I', Qv v I' → kv_V y_Sto_takeIn d B Q kc ks n S I' 70 [(0, .ref a0), (1, .ref a1), (2, .int v2), (3, .ref a3), (4, .int v4), (5, .int v5)] (v.toList ++ [])) : kv_V y_Sto_takeIn d B Q kc ks n S I 66 [(0, .ref a0), (1, .ref a1), (2, .int v2), (3, .ref a3), (4, .int v4), (5, .int v5)] [] := by
  refine bl_Sto_takeIn_66 hO1 hM hdp (Nat.zero_le _) (Nat.zero_le _) (fun v n' S' I' hv => ?_)
  obtain ⟨e1, e2, hv⟩ := hv
  subst e1
  subst e2
  exact K v I' hv
theorem bp_Sto_takeIn_86 {d : Nat} {B : kv_B} {Q : kv_Q} {kc ks n : Nat} {S : kv_SM} {I : kv_IM} {dc : Nat} {Qv : Option Value → kv_IM → Prop} {a0 : Nat} {a1 : Nat} {v2 : Int32} {a3 : Nat} {v4 : Int32} {v5 : Int32} {t0 : Int32} {t1 : Nat} {r1 : Nat → Option Nat} (hO1 : S a0 = kO 3 r1) (hM : kv_P y_Sto_takeInNew dc B [.ref a0, .ref a1, .int v4] n S I Qv) (hdp : dc + 1 ≤ d) (K : ∀ v I', Qv v I' → kv_V y_Sto_takeIn d B Q kc ks n S I' 93 [(0, .ref a0), (1, .ref a1), (2, .int v2), (3, .ref a3), (4, .int v4), (5, .int v5)] (v.toList ++ [.int t0, .ref t1])) : kv_V y_Sto_takeIn d B Q kc ks n S I 86 [(0, .ref a0), (1, .ref a1), (2, .int v2), (3, .ref a3), (4, .int v4), (5, .int v5)] [.int t0, .ref t1] := by
  refine bl_Sto_takeIn_86 hO1 hM hdp (Nat.zero_le _) (Nat.zero_le _) (fun v n' S' I' hv => ?_)
  obtain ⟨e1, e2, hv⟩ := hv
  subst e1
  subst e2
  exact K v I' hv
theorem bp_Sto_takeIn_105 {d : Nat} {B : kv_B} {Q : kv_Q} {kc ks n : Nat} {S : kv_SM} {I : kv_IM} {dc : Nat} {Qv : Option Value → kv_IM → Prop} {a0 : Nat} {a1 : Nat} {v2 : Int32} {a3 : Nat} {v4 : Int32} {r1 : Nat → Option Nat} {r2 : Nat → Option Nat} (hO1 : S a1 = kO 0 r1) (hO2 : S a3 = kO 2 r2) (hM : kv_P y_Row_end dc B [.ref a1] n S (kv_up I a3 1 (I a1 5)) Qv) (hdp : dc + 1 ≤ d) (K : ∀ v I', Qv v I' → kv_V y_Sto_takeIn d B Q kc ks n S I' 118 [(0, .ref a0), (1, .ref a1), (2, .int v2), (3, .ref a3), (4, .int v4)] (v.toList ++ [.ref a3])) : kv_V y_Sto_takeIn d B Q kc ks n S I 105 [(0, .ref a0), (1, .ref a1), (2, .int v2), (3, .ref a3), (4, .int v4)] [] := by
  refine bl_Sto_takeIn_105 hO1 hO2 hM hdp (Nat.zero_le _) (Nat.zero_le _) (fun v n' S' I' hv => ?_)
  obtain ⟨e1, e2, hv⟩ := hv
  subst e1
  subst e2
  exact K v I' hv
theorem bp_Sto_takeIn_118 {d : Nat} {B : kv_B} {Q : kv_Q} {kc ks n : Nat} {S : kv_SM} {I : kv_IM} {dc : Nat} {Qv : Option Value → kv_IM → Prop} {a0 : Nat} {a1 : Nat} {v2 : Int32} {a3 : Nat} {v4 : Int32} {t0 : Int32} {t1 : Nat} {r1 : Nat → Option Nat} {r2 : Nat → Option Nat} {r3 : Nat → Option Nat} (hO1 : S t1 = kO 2 r1) (hO2 : S a3 = kO 2 r2) (hO3 : S a0 = kO 3 r3) (hM : kv_P y_Sto_countPlaces dc B [.ref a0, .ref a3, .int 1] n S (kv_up (kv_up I t1 2 t0) a3 3 1) Qv) (hdp : dc + 1 ≤ d) (K : ∀ v I', Qv v I' → kv_V y_Sto_takeIn d B Q kc ks n S I' 132 [(0, .ref a0), (1, .ref a1), (2, .int v2), (3, .ref a3), (4, .int v4)] (v.toList ++ [])) : kv_V y_Sto_takeIn d B Q kc ks n S I 118 [(0, .ref a0), (1, .ref a1), (2, .int v2), (3, .ref a3), (4, .int v4)] [.int t0, .ref t1] := by
  refine bl_Sto_takeIn_118 hO1 hO2 hO3 hM hdp (Nat.zero_le _) (Nat.zero_le _) (fun v n' S' I' hv => ?_)
  obtain ⟨e1, e2, hv⟩ := hv
  subst e1
  subst e2
  exact K v I' hv
theorem bp_Row_hasRoomFor_12 {d : Nat} {B : kv_B} {Q : kv_Q} {kc ks n : Nat} {S : kv_SM} {I : kv_IM} {dc : Nat} {Qv : Option Value → kv_IM → Prop} {a0 : Nat} {v1 : Int32} {r1 : Nat → Option Nat} {q2 : Nat} {m3 : Nat} (hO1 : S a0 = kO 0 r1) (hr2 : r1 0 = some q2) (hA3 : S q2 = kI m3) (hl4 : 0 < m3) (hM : kv_P y_Row_end dc B [.ref a0] n S I Qv) (hdp : dc + 1 ≤ d) (K : ∀ v I', Qv v I' → kv_V y_Row_hasRoomFor d B Q kc ks n S I' 22 [(0, .ref a0), (1, .int v1)] (v.toList ++ [.int (nI m3), .int v1])) : kv_V y_Row_hasRoomFor d B Q kc ks n S I 12 [(0, .ref a0), (1, .int v1)] [] := by
  refine bl_Row_hasRoomFor_12 hO1 hr2 hA3 hl4 hM hdp (Nat.zero_le _) (Nat.zero_le _) (fun v n' S' I' hv => ?_)
  obtain ⟨e1, e2, hv⟩ := hv
  subst e1
  subst e2
  exact K v I' hv
theorem bp_Sto_sweep_0 {d : Nat} {B : kv_B} {Q : kv_Q} {kc ks n : Nat} {S : kv_SM} {I : kv_IM} {dc : Nat} {Qv : Option Value → kv_IM → Prop} {a0 : Nat} {r1 : Nat → Option Nat} {q2 : Nat} {r3 : Nat → Option Nat} (hO1 : S a0 = kO 3 r1) (hr2 : r1 0 = some q2) (hO3 : S q2 = kO 0 r3) (hM : kv_P y_Row_end dc B [.ref q2] n S I Qv) (hdp : dc + 1 ≤ d) (K : ∀ v I', Qv v I' → kv_V y_Sto_sweep d B Q kc ks n S I' 7 [(0, .ref a0)] (v.toList ++ [])) : kv_V y_Sto_sweep d B Q kc ks n S I 0 [(0, .ref a0)] [] := by
  refine bl_Sto_sweep_0 hO1 hr2 hO3 hM hdp (Nat.zero_le _) (Nat.zero_le _) (fun v n' S' I' hv => ?_)
  obtain ⟨e1, e2, hv⟩ := hv
  subst e1
  subst e2
  exact K v I' hv
theorem bp_Sto_sweep_7 {d : Nat} {B : kv_B} {Q : kv_Q} {kc ks n : Nat} {S : kv_SM} {I : kv_IM} {dc : Nat} {Qv : Option Value → kv_IM → Prop} {a0 : Nat} {t0 : Int32} {r1 : Nat → Option Nat} {q2 : Nat} {r3 : Nat → Option Nat} (hO1 : S a0 = kO 3 r1) (hr2 : r1 0 = some q2) (hO3 : S q2 = kO 0 r3) (hM : kv_P y_Row_unchain dc B [.ref q2] n S (kv_up I q2 5 0) Qv) (hdp : dc + 1 ≤ d) (K : ∀ v I', Qv v I' → kv_V y_Sto_sweep d B Q kc ks n S I' 31 [(0, .ref a0), (1, .int t0), (2, .int (I q2 5))] (v.toList ++ [])) : kv_V y_Sto_sweep d B Q kc ks n S I 7 [(0, .ref a0)] [.int t0] := by
  refine bl_Sto_sweep_7 hO1 hr2 hO3 hM hdp (Nat.zero_le _) (Nat.zero_le _) (fun v n' S' I' hv => ?_)
  obtain ⟨e1, e2, hv⟩ := hv
  subst e1
  subst e2
  exact K v I' hv
theorem bp_Sto_sweep_47 {d : Nat} {B : kv_B} {Q : kv_Q} {kc ks n : Nat} {S : kv_SM} {I : kv_IM} {dc : Nat} {Qv : Option Value → kv_IM → Prop} {a0 : Nat} {v1 : Int32} {v2 : Int32} {v3 : Int32} {r1 : Nat → Option Nat} {q2 : Nat} {q3 : Nat} {r4 : Nat → Option Nat} {m5 : Nat} {j6 : Nat} {q7 : Nat} {m8 : Nat} {j9 : Nat} {j10 : Nat} (hO1 : S a0 = kO 3 r1) (hr2 : r1 2 = some q2) (hr3 : r1 0 = some q3) (hO4 : S q3 = kO 0 r4) (hA5 : S q2 = kI m5) (hi6 : v3 = nI j6 ∧ j6 < m5 ∧ m5 < 2 ^ 31) (hr7 : r1 1 = some q7) (hA8 : S q7 = kI m8) (hi9 : v3 = nI j9 ∧ j9 < m8 ∧ m8 < 2 ^ 31) (hi10 : (kv_up I q2 j6 (I q3 5)) q3 5 = nI j10 ∧ j10 < m8 ∧ m8 < 2 ^ 31) (hM : kv_P y_Row_append dc B [.ref q3, .ref q3, .int v3] n S (kv_up (kv_up I q2 j6 (I q3 5)) q7 j10 ((kv_up I q2 j6 (I q3 5)) q7 j9)) Qv) (hdp : dc + 1 ≤ d) (K : ∀ v I', Qv v I' → kv_V y_Sto_sweep d B Q kc ks n S I' 90 [(0, .ref a0), (1, .int v1), (2, .int v2), (3, .int v3)] (v.toList ++ [])) : kv_V y_Sto_sweep d B Q kc ks n S I 47 [(0, .ref a0), (1, .int v1), (2, .int v2), (3, .int v3)] [] := by
  refine bl_Sto_sweep_47 hO1 hr2 hr3 hO4 hA5 hi6 hr7 hA8 hi9 hi10 hM hdp (Nat.zero_le _) (Nat.zero_le _) (fun v n' S' I' hv => ?_)
  obtain ⟨e1, e2, hv⟩ := hv
  subst e1
  subst e2
  exact K v I' hv
theorem bp_Sto_sweep_96 {d : Nat} {B : kv_B} {Q : kv_Q} {kc ks n : Nat} {S : kv_SM} {I : kv_IM} {dc : Nat} {Qv : Option Value → kv_IM → Prop} {a0 : Nat} {v1 : Int32} {v2 : Int32} {v3 : Int32} {r1 : Nat → Option Nat} (hO1 : S a0 = kO 3 r1) (hM : kv_P y_Sto_renumber dc B [.ref a0] n S I Qv) (hdp : dc + 1 ≤ d) (K : ∀ v I', Qv v I' → kv_V y_Sto_sweep d B Q kc ks n S I' 100 [(0, .ref a0), (1, .int v1), (2, .int v2), (3, .int v3)] (v.toList ++ [])) : kv_V y_Sto_sweep d B Q kc ks n S I 96 [(0, .ref a0), (1, .int v1), (2, .int v2), (3, .int v3)] [] := by
  refine bl_Sto_sweep_96 hO1 hM hdp (Nat.zero_le _) (Nat.zero_le _) (fun v n' S' I' hv => ?_)
  obtain ⟨e1, e2, hv⟩ := hv
  subst e1
  subst e2
  exact K v I' hv
theorem bp_Sto_sweep_100 {d : Nat} {B : kv_B} {Q : kv_Q} {kc ks n : Nat} {S : kv_SM} {I : kv_IM} {dc : Nat} {Qv : Option Value → kv_IM → Prop} {a0 : Nat} {v1 : Int32} {v2 : Int32} {v3 : Int32} {r1 : Nat → Option Nat} {q2 : Nat} {r3 : Nat → Option Nat} (hO1 : S a0 = kO 3 r1) (hr2 : r1 0 = some q2) (hO3 : S q2 = kO 0 r3) (hM : kv_P y_Row_end dc B [.ref q2] n S I Qv) (hdp : dc + 1 ≤ d) (K : ∀ v I', Qv v I' → kv_V y_Sto_sweep d B Q kc ks n S I' 108 [(0, .ref a0), (1, .int v1), (2, .int v2), (3, .int v3)] (v.toList ++ [.int v1])) : kv_V y_Sto_sweep d B Q kc ks n S I 100 [(0, .ref a0), (1, .int v1), (2, .int v2), (3, .int v3)] [] := by
  refine bl_Sto_sweep_100 hO1 hr2 hO3 hM hdp (Nat.zero_le _) (Nat.zero_le _) (fun v n' S' I' hv => ?_)
  obtain ⟨e1, e2, hv⟩ := hv
  subst e1
  subst e2
  exact K v I' hv
theorem bp_Row_append_0 {d : Nat} {B : kv_B} {Q : kv_Q} {kc ks n : Nat} {S : kv_SM} {I : kv_IM} {dc : Nat} {Qv : Option Value → kv_IM → Prop} {a0 : Nat} {a1 : Nat} {v2 : Int32} {r1 : Nat → Option Nat} (hO1 : S a1 = kO 0 r1) (hM : kv_P y_Row_bytesOf dc B [.ref a1, .int v2] n S I Qv) (hdp : dc + 1 ≤ d) (K : ∀ v I', Qv v I' → kv_V y_Row_append d B Q kc ks n S I' 5 [(0, .ref a0), (1, .ref a1), (2, .int v2)] (v.toList ++ [])) : kv_V y_Row_append d B Q kc ks n S I 0 [(0, .ref a0), (1, .ref a1), (2, .int v2)] [] := by
  refine bl_Row_append_0 hO1 hM hdp (Nat.zero_le _) (Nat.zero_le _) (fun v n' S' I' hv => ?_)
  obtain ⟨e1, e2, hv⟩ := hv
  subst e1
  subst e2
  exact K v I' hv
theorem bp_Row_append_5 {d : Nat} {B : kv_B} {Q : kv_Q} {kc ks n : Nat} {S : kv_SM} {I : kv_IM} {dc : Nat} {Qv : Option Value → kv_IM → Prop} {a0 : Nat} {a1 : Nat} {v2 : Int32} {t0 : Int32} {r1 : Nat → Option Nat} {q2 : Nat} {q3 : Nat} {m4 : Nat} {j5 : Nat} {r6 : Nat → Option Nat} {q7 : Nat} (hO1 : S a1 = kO 0 r1) (hr2 : r1 0 = some q2) (hr3 : r1 1 = some q3) (hA4 : S q3 = kI m4) (hi5 : v2 = nI j5 ∧ j5 < m4 ∧ m4 < 2 ^ 31) (hO6 : S a0 = kO 0 r6) (hr7 : r6 0 = some q7) (hM : kv_P y_Row_end dc B [.ref a0] n S I Qv) (hdp : dc + 1 ≤ d) (K : ∀ v I', Qv v I' → kv_V y_Row_append d B Q kc ks n S I' 24 [(0, .ref a0), (1, .ref a1), (2, .int v2), (3, .int t0)] (v.toList ++ [.ref q7, .int (I q3 j5), .ref q2])) : kv_V y_Row_append d B Q kc ks n S I 5 [(0, .ref a0), (1, .ref a1), (2, .int v2)] [.int t0] := by
  refine bl_Row_append_5 hO1 hr2 hr3 hA4 hi5 hO6 hr7 hM hdp (Nat.zero_le _) (Nat.zero_le _) (fun v n' S' I' hv => ?_)
  obtain ⟨e1, e2, hv⟩ := hv
  subst e1
  subst e2
  exact K v I' hv
theorem bp_Row_append_24 {d : Nat} {B : kv_B} {Q : kv_Q} {kc ks n : Nat} {S : kv_SM} {I : kv_IM} {dc : Nat} {Qv : Option Value → kv_IM → Prop} {a0 : Nat} {a1 : Nat} {v2 : Int32} {v3 : Int32} {t0 : Int32} {t1 : Nat} {t2 : Int32} {t3 : Nat} {m1 : Nat} {m2 : Nat} {sp3 dp3 N3 : Nat} {r4 : Nat → Option Nat} {q5 : Nat} {r6 : Nat → Option Nat} {q7 : Nat} {m8 : Nat} {j9 : Nat} {m10 : Nat} {j11 : Nat} (hd1 : 1 ≤ d) (hA1 : S t3 = kI m1) (hA2 : S t1 = kI m2) (hc3 : (0 < m1 ∧ 0 < m2 ∧ m1 < 2 ^ 30 ∧ m2 < 2 ^ 30) ∧ (t2 = nI sp3 ∧ t0 = nI dp3 ∧ v3 = nI N3) ∧ sp3 + N3 ≤ m1 ∧ dp3 + N3 ≤ m2) (hO4 : S a0 = kO 0 r4) (hr5 : r4 2 = some q5) (hO6 : S a1 = kO 0 r6) (hr7 : r6 2 = some q7) (hA8 : S q7 = kI m8) (hi9 : v2 = nI j9 ∧ j9 < m8 ∧ m8 < 2 ^ 31) (hA10 : S q5 = kI m10) (hi11 : (kv_cp I t3 t1 sp3 dp3 N3) a0 5 = nI j11 ∧ j11 < m10 ∧ m10 < 2 ^ 31) (hM : kv_P y_Row_chain dc B [.ref a0, .int ((kv_up (kv_cp I t3 t1 sp3 dp3 N3) q5 j11 ((kv_cp I t3 t1 sp3 dp3 N3) q7 j9)) a0 5)] n S (kv_up (kv_cp I t3 t1 sp3 dp3 N3) q5 j11 ((kv_cp I t3 t1 sp3 dp3 N3) q7 j9)) Qv) (hdp : dc + 1 ≤ d) (K : ∀ v I', Qv v I' → kv_V y_Row_append d B Q kc ks n S I' 51 [(0, .ref a0), (1, .ref a1), (2, .int v2), (3, .int v3)] (v.toList ++ [])) : kv_V y_Row_append d B Q kc ks n S I 24 [(0, .ref a0), (1, .ref a1), (2, .int v2), (3, .int v3)] [.int t0, .ref t1, .int t2, .ref t3] := by
  refine bl_Row_append_24 hd1 hA1 hA2 hc3 hO4 hr5 hO6 hr7 hA8 hi9 hA10 hi11 hM hdp (Nat.zero_le _) (Nat.zero_le _) (fun v n' S' I' hv => ?_)
  obtain ⟨e1, e2, hv⟩ := hv
  subst e1
  subst e2
  exact K v I' hv
theorem bp_Row_append_51 {d : Nat} {B : kv_B} {Q : kv_Q} {kc ks n : Nat} {S : kv_SM} {I : kv_IM} {dc : Nat} {Qv : Option Value → kv_IM → Prop} {a0 : Nat} {a1 : Nat} {v2 : Int32} {v3 : Int32} {r1 : Nat → Option Nat} (hO1 : S a0 = kO 0 r1) (hM : kv_P y_Row_end dc B [.ref a0] n S I Qv) (hdp : dc + 1 ≤ d) (K : ∀ v I', Qv v I' → kv_V y_Row_append d B Q kc ks n S I' 56 [(0, .ref a0), (1, .ref a1), (2, .int v2), (3, .int v3)] (v.toList ++ [.ref a0])) : kv_V y_Row_append d B Q kc ks n S I 51 [(0, .ref a0), (1, .ref a1), (2, .int v2), (3, .int v3)] [] := by
  refine bl_Row_append_51 hO1 hM hdp (Nat.zero_le _) (Nat.zero_le _) (fun v n' S' I' hv => ?_)
  obtain ⟨e1, e2, hv⟩ := hv
  subst e1
  subst e2
  exact K v I' hv
theorem bp_Row_append_56 {d : Nat} {B : kv_B} {Q : kv_Q} {kc ks n : Nat} {S : kv_SM} {I : kv_IM} {dc : Nat} {Qv : Option Value → kv_IM → Prop} {a0 : Nat} {a1 : Nat} {v2 : Int32} {v3 : Int32} {t0 : Int32} {t1 : Nat} {r1 : Nat → Option Nat} (hO1 : S t1 = kO 0 r1) (hM : kv_P y_Row_close dc B [.ref t1, .int (t0 + v3)] n S I Qv) (hdp : dc + 1 ≤ d) (K : ∀ v I', Qv v I' → kv_V y_Row_append d B Q kc ks n S I' 61 [(0, .ref a0), (1, .ref a1), (2, .int v2), (3, .int v3)] (v.toList ++ [])) : kv_V y_Row_append d B Q kc ks n S I 56 [(0, .ref a0), (1, .ref a1), (2, .int v2), (3, .int v3)] [.int t0, .ref t1] := by
  refine bl_Row_append_56 hO1 hM hdp (Nat.zero_le _) (Nat.zero_le _) (fun v n' S' I' hv => ?_)
  obtain ⟨e1, e2, hv⟩ := hv
  subst e1
  subst e2
  exact K v I' hv
theorem bp_Sto_takeInNew_0 {d : Nat} {B : kv_B} {Q : kv_Q} {kc ks n : Nat} {S : kv_SM} {I : kv_IM} {dc : Nat} {Qv : Option Value → kv_IM → Prop} {a0 : Nat} {a1 : Nat} {v2 : Int32} {r1 : Nat → Option Nat} {q2 : Nat} {r3 : Nat → Option Nat} {q4 : Nat} {m5 : Nat} {j6 : Nat} (hO1 : S a0 = kO 3 r1) (hr2 : r1 0 = some q2) (hO3 : S q2 = kO 0 r3) (hr4 : r1 1 = some q4) (hA5 : S q4 = kI m5) (hi6 : I q2 5 = nI j6 ∧ j6 < m5 ∧ m5 < 2 ^ 31) (hM : kv_P y_Row_append dc B [.ref q2, .ref a1, .int v2] n S (kv_up I q4 j6 0) Qv) (hdp : dc + 1 ≤ d) (K : ∀ v I', Qv v I' → kv_V y_Sto_takeInNew d B Q kc ks n S I' 24 [(0, .ref a0), (1, .ref a1), (2, .int v2), (3, .int (I q2 5))] (v.toList ++ [])) : kv_V y_Sto_takeInNew d B Q kc ks n S I 0 [(0, .ref a0), (1, .ref a1), (2, .int v2)] [] := by
  refine bl_Sto_takeInNew_0 hO1 hr2 hO3 hr4 hA5 hi6 hM hdp (Nat.zero_le _) (Nat.zero_le _) (fun v n' S' I' hv => ?_)
  obtain ⟨e1, e2, hv⟩ := hv
  subst e1
  subst e2
  exact K v I' hv
theorem bp_Sto_letGo_0 {d : Nat} {B : kv_B} {Q : kv_Q} {kc ks n : Nat} {S : kv_SM} {I : kv_IM} {dc : Nat} {Qv : Option Value → kv_IM → Prop} {a0 : Nat} {v1 : Int32} {r1 : Nat → Option Nat} {q2 : Nat} {m3 : Nat} {r3 : Nat → Option Nat} {j4 : Nat} {q5 : Nat} (hO1 : S a0 = kO 3 r1) (hr2 : r1 3 = some q2) (hA3 : S q2 = kA 2 m3 r3) (hi4 : v1 = nI j4 ∧ j4 < m3 ∧ m3 < 2 ^ 31) (he5 : r3 j4 = some q5) (hM : kv_P y_Sto_countPlaces dc B [.ref a0, .ref q5, .int ((-1))] n S I Qv) (hdp : dc + 1 ≤ d) (K : ∀ v I', Qv v I' → kv_V y_Sto_letGo d B Q kc ks n S I' 13 [(0, .ref a0), (1, .int v1), (2, .ref q5)] (v.toList ++ [])) : kv_V y_Sto_letGo d B Q kc ks n S I 0 [(0, .ref a0), (1, .int v1)] [] := by
  refine bl_Sto_letGo_0 hO1 hr2 hA3 hi4 he5 hM hdp (Nat.zero_le _) (Nat.zero_le _) (fun v n' S' I' hv => ?_)
  obtain ⟨e1, e2, hv⟩ := hv
  subst e1
  subst e2
  exact K v I' hv
theorem bp_Sto_letGo_13 {d : Nat} {B : kv_B} {Q : kv_Q} {kc ks n : Nat} {S : kv_SM} {I : kv_IM} {dc : Nat} {Qv : Option Value → kv_IM → Prop} {a0 : Nat} {v1 : Int32} {a2 : Nat} {r1 : Nat → Option Nat} {r2 : Nat → Option Nat} (hO1 : S a2 = kO 2 r1) (hO2 : S a0 = kO 3 r2) (hM : kv_P y_Sto_sweep dc B [.ref a0] n S (kv_up I a2 3 0) Qv) (hdp : dc + 1 ≤ d) (K : ∀ v I', Qv v I' → kv_V y_Sto_letGo d B Q kc ks n S I' 22 [(0, .ref a0), (1, .int v1), (2, .ref a2)] (v.toList ++ [])) : kv_V y_Sto_letGo d B Q kc ks n S I 13 [(0, .ref a0), (1, .int v1), (2, .ref a2)] [] := by
  refine bl_Sto_letGo_13 hO1 hO2 hM hdp (Nat.zero_le _) (Nat.zero_le _) (fun v n' S' I' hv => ?_)
  obtain ⟨e1, e2, hv⟩ := hv
  subst e1
  subst e2
  exact K v I' hv
theorem bp_Sto_giveBack_22 {d : Nat} {B : kv_B} {Q : kv_Q} {kc ks n : Nat} {S : kv_SM} {I : kv_IM} {dc : Nat} {Qv : Option Value → kv_IM → Prop} {a0 : Nat} {v1 : Int32} {a2 : Nat} {a3 : Nat} {v4 : Int32} {v5 : Int32} {r1 : Nat → Option Nat} {q2 : Nat} {m3 : Nat} {j4 : Nat} {r5 : Nat → Option Nat} {q6 : Nat} {r7 : Nat → Option Nat} (hO1 : S a3 = kO 2 r1) (hr2 : r1 0 = some q2) (hA3 : S q2 = kI m3) (hi4 : v5 = nI j4 ∧ j4 < m3 ∧ m3 < 2 ^ 31) (hO5 : S a0 = kO 3 r5) (hr6 : r5 0 = some q6) (hO7 : S q6 = kO 0 r7) (hM : kv_P y_Row_bytesOf dc B [.ref q6, .int (I q2 j4)] n S I Qv) (hdp : dc + 1 ≤ d) (K : ∀ v I', Qv v I' → kv_V y_Sto_giveBack d B Q kc ks n S I' 40 [(0, .ref a0), (1, .int v1), (2, .ref a2), (3, .ref a3), (4, .int v4), (5, .int v5), (6, .int (I q2 j4))] (v.toList ++ [])) : kv_V y_Sto_giveBack d B Q kc ks n S I 22 [(0, .ref a0), (1, .int v1), (2, .ref a2), (3, .ref a3), (4, .int v4), (5, .int v5)] [] := by
  refine bl_Sto_giveBack_22 hO1 hr2 hA3 hi4 hO5 hr6 hO7 hM hdp (Nat.zero_le _) (Nat.zero_le _) (fun v n' S' I' hv => ?_)
  obtain ⟨e1, e2, hv⟩ := hv
  subst e1
  subst e2
  exact K v I' hv
theorem bp_Sto_giveBack_86 {d : Nat} {B : kv_B} {Q : kv_Q} {kc ks n : Nat} {S : kv_SM} {I : kv_IM} {dc : Nat} {Qv : Option Value → kv_IM → Prop} {a0 : Nat} {v1 : Int32} {a2 : Nat} {a3 : Nat} {v4 : Int32} {v5 : Int32} {r1 : Nat → Option Nat} (hO1 : S a2 = kO 4 r1) (hM : kv_P y_Txt_changedTo dc B [.ref a2, .int v4] n S I Qv) (hdp : dc + 1 ≤ d) (K : ∀ v I', Qv v I' → kv_V y_Sto_giveBack d B Q kc ks n S I' 92 [(0, .ref a0), (1, .int v1), (2, .ref a2), (3, .ref a3), (4, .int v4), (5, .int v5)] (v.toList ++ [])) : kv_V y_Sto_giveBack d B Q kc ks n S I 86 [(0, .ref a0), (1, .int v1), (2, .ref a2), (3, .ref a3), (4, .int v4), (5, .int v5)] [] := by
  refine bl_Sto_giveBack_86 hO1 hM hdp (Nat.zero_le _) (Nat.zero_le _) (fun v n' S' I' hv => ?_)
  obtain ⟨e1, e2, hv⟩ := hv
  subst e1
  subst e2
  exact K v I' hv
theorem bp_Sto_placesOf_0 {d : Nat} {B : kv_B} {Q : kv_Q} {kc ks n : Nat} {S : kv_SM} {I : kv_IM} {dc : Nat} {Qv : Option Value → kv_IM → Prop} {a0 : Nat} {a1 : Nat} {v2 : Int32} {r1 : Nat → Option Nat} {q2 : Nat} {r3 : Nat → Option Nat} (hO1 : S a0 = kO 3 r1) (hr2 : r1 0 = some q2) (hO3 : S q2 = kO 0 r3) (hM : kv_P y_Row_find dc B [.ref q2, .ref a1, .int v2] n S I Qv) (hdp : dc + 1 ≤ d) (K : ∀ v I', Qv v I' → kv_V y_Sto_placesOf d B Q kc ks n S I' 9 [(0, .ref a0), (1, .ref a1), (2, .int v2)] (v.toList ++ [])) : kv_V y_Sto_placesOf d B Q kc ks n S I 0 [(0, .ref a0), (1, .ref a1), (2, .int v2)] [] := by
  refine bl_Sto_placesOf_0 hO1 hr2 hO3 hM hdp (Nat.zero_le _) (Nat.zero_le _) (fun v n' S' I' hv => ?_)
  obtain ⟨e1, e2, hv⟩ := hv
  subst e1
  subst e2
  exact K v I' hv
theorem bp_Row_pairsOfOneKey_11 {d : Nat} {B : kv_B} {Q : kv_Q} {kc ks n : Nat} {S : kv_SM} {I : kv_IM} {dc : Nat} {Qv : Option Value → kv_IM → Prop} {a0 : Nat} {v1 : Int32} {v2 : Int32} {r1 : Nat → Option Nat} (hO1 : S a0 = kO 0 r1) (hM : kv_P y_Row_chainLength dc B [.ref a0, .int v2] n S I Qv) (hdp : dc + 1 ≤ d) (K : ∀ v I', Qv v I' → kv_V y_Row_pairsOfOneKey d B Q kc ks n S I' 16 [(0, .ref a0), (1, .int v1), (2, .int v2)] (v.toList ++ [])) : kv_V y_Row_pairsOfOneKey d B Q kc ks n S I 11 [(0, .ref a0), (1, .int v1), (2, .int v2)] [] := by
  refine bl_Row_pairsOfOneKey_11 hO1 hM hdp (Nat.zero_le _) (Nat.zero_le _) (fun v n' S' I' hv => ?_)
  obtain ⟨e1, e2, hv⟩ := hv
  subst e1
  subst e2
  exact K v I' hv
theorem bp_Row_mostOfOneKey_11 {d : Nat} {B : kv_B} {Q : kv_Q} {kc ks n : Nat} {S : kv_SM} {I : kv_IM} {dc : Nat} {Qv : Option Value → kv_IM → Prop} {a0 : Nat} {v1 : Int32} {v2 : Int32} {r1 : Nat → Option Nat} (hO1 : S a0 = kO 0 r1) (hM : kv_P y_Row_chainLength dc B [.ref a0, .int v2] n S I Qv) (hdp : dc + 1 ≤ d) (K : ∀ v I', Qv v I' → kv_V y_Row_mostOfOneKey d B Q kc ks n S I' 17 [(0, .ref a0), (1, .int v1), (2, .int v2)] (v.toList ++ [.int v1])) : kv_V y_Row_mostOfOneKey d B Q kc ks n S I 11 [(0, .ref a0), (1, .int v1), (2, .int v2)] [] := by
  refine bl_Row_mostOfOneKey_11 hO1 hM hdp (Nat.zero_le _) (Nat.zero_le _) (fun v n' S' I' hv => ?_)
  obtain ⟨e1, e2, hv⟩ := hv
  subst e1
  subst e2
  exact K v I' hv
theorem bp_Cb_seed_0 {d : Nat} {B : kv_B} {Q : kv_Q} {kc ks n : Nat} {S : kv_SM} {I : kv_IM} {dc : Nat} {Qv : Option Value → kv_IM → Prop} {a0 : Nat} {v1 : Int32} {r1 : Nat → Option Nat} {q2 : Nat} {r3 : Nat → Option Nat} (hO1 : S a0 = kO 5 r1) (hr2 : r1 0 = some q2) (hO3 : S q2 = kO 1 r3) (hM : kv_P y_Rul_sow dc B [.ref q2, .int v1] n S I Qv) (hdp : dc + 1 ≤ d) (K : ∀ v I', Qv v I' → kv_V y_Cb_seed d B Q kc ks n S I' 8 [(0, .ref a0), (1, .int v1)] (v.toList ++ [])) : kv_V y_Cb_seed d B Q kc ks n S I 0 [(0, .ref a0), (1, .int v1)] [] := by
  refine bl_Cb_seed_0 hO1 hr2 hO3 hM hdp (Nat.zero_le _) (Nat.zero_le _) (fun v n' S' I' hv => ?_)
  obtain ⟨e1, e2, hv⟩ := hv
  subst e1
  subst e2
  exact K v I' hv
theorem bp_Cb_seed_8 {d : Nat} {B : kv_B} {Q : kv_Q} {kc ks n : Nat} {S : kv_SM} {I : kv_IM} {dc : Nat} {Qv : Option Value → kv_IM → Prop} {a0 : Nat} {v1 : Int32} {r1 : Nat → Option Nat} (hO1 : S a0 = kO 5 r1) (hM : kv_P y_Cb_forgetAllCuts dc B [.ref a0] n S I Qv) (hdp : dc + 1 ≤ d) (K : ∀ v I', Qv v I' → kv_V y_Cb_seed d B Q kc ks n S I' 12 [(0, .ref a0), (1, .int v1)] (v.toList ++ [])) : kv_V y_Cb_seed d B Q kc ks n S I 8 [(0, .ref a0), (1, .int v1)] [] := by
  refine bl_Cb_seed_8 hO1 hM hdp (Nat.zero_le _) (Nat.zero_le _) (fun v n' S' I' hv => ?_)
  obtain ⟨e1, e2, hv⟩ := hv
  subst e1
  subst e2
  exact K v I' hv
theorem bp_Cb_forgetAllCuts_7 {d : Nat} {B : kv_B} {Q : kv_Q} {kc ks n : Nat} {S : kv_SM} {I : kv_IM} {dc : Nat} {Qv : Option Value → kv_IM → Prop} {a0 : Nat} {v1 : Int32} {r1 : Nat → Option Nat} {q2 : Nat} {m3 : Nat} {r3 : Nat → Option Nat} {j4 : Nat} {q5 : Nat} {r6 : Nat → Option Nat} (hO1 : S a0 = kO 5 r1) (hr2 : r1 1 = some q2) (hA3 : S q2 = kA 4 m3 r3) (hi4 : v1 = nI j4 ∧ j4 < m3 ∧ m3 < 2 ^ 31) (he5 : r3 j4 = some q5) (hO6 : S q5 = kO 4 r6) (hM : kv_P y_Txt_forgetCuts dc B [.ref q5] n S I Qv) (hdp : dc + 1 ≤ d) (K : ∀ v I', Qv v I' → kv_V y_Cb_forgetAllCuts d B Q kc ks n S I' 16 [(0, .ref a0), (1, .int v1)] (v.toList ++ [])) : kv_V y_Cb_forgetAllCuts d B Q kc ks n S I 7 [(0, .ref a0), (1, .int v1)] [] := by
  refine bl_Cb_forgetAllCuts_7 hO1 hr2 hA3 hi4 he5 hO6 hM hdp (Nat.zero_le _) (Nat.zero_le _) (fun v n' S' I' hv => ?_)
  obtain ⟨e1, e2, hv⟩ := hv
  subst e1
  subst e2
  exact K v I' hv
theorem bp_Cb_rule_0 {d : Nat} {B : kv_B} {Q : kv_Q} {kc ks n : Nat} {S : kv_SM} {I : kv_IM} {dc : Nat} {Qv : Option Value → kv_IM → Prop} {a0 : Nat} {v1 : Int32} {v2 : Int32} {v3 : Int32} {v4 : Int32} {v5 : Int32} {v6 : Int32}  (hM : kv_P y_Rul_fit dc B [.int v1, .int v2, .int v3, .int v4, .int v5, .int v6] n S I Qv) (hdp : dc + 1 ≤ d) (K : ∀ v I', Qv v I' → kv_V y_Cb_rule d B Q kc ks n S I' 12 [(0, .ref a0), (1, .int v1), (2, .int v2), (3, .int v3), (4, .int v4), (5, .int v5), (6, .int v6)] (v.toList ++ [])) : kv_V y_Cb_rule d B Q kc ks n S I 0 [(0, .ref a0), (1, .int v1), (2, .int v2), (3, .int v3), (4, .int v4), (5, .int v5), (6, .int v6)] [] := by
  refine bl_Cb_rule_0  hM hdp (Nat.zero_le _) (Nat.zero_le _) (fun v n' S' I' hv => ?_)
  obtain ⟨e1, e2, hv⟩ := hv
  subst e1
  subst e2
  exact K v I' hv
theorem bp_Cb_rule_17 {d : Nat} {B : kv_B} {Q : kv_Q} {kc ks n : Nat} {S : kv_SM} {I : kv_IM} {dc : Nat} {Qv : Option Value → kv_IM → Prop} {a0 : Nat} {v1 : Int32} {v2 : Int32} {v3 : Int32} {v4 : Int32} {v5 : Int32} {v6 : Int32} {r1 : Nat → Option Nat} {q2 : Nat} {r3 : Nat → Option Nat} (hO1 : S a0 = kO 5 r1) (hr2 : r1 0 = some q2) (hO3 : S q2 = kO 1 r3) (hM : kv_P y_Rul_take dc B [.ref q2, .int v1, .int v2, .int v3, .int v4, .int v5, .int v6] n S I Qv) (hdp : dc + 1 ≤ d) (K : ∀ v I', Qv v I' → kv_V y_Cb_rule d B Q kc ks n S I' 33 [(0, .ref a0), (1, .int v1), (2, .int v2), (3, .int v3), (4, .int v4), (5, .int v5), (6, .int v6)] (v.toList ++ [])) : kv_V y_Cb_rule d B Q kc ks n S I 17 [(0, .ref a0), (1, .int v1), (2, .int v2), (3, .int v3), (4, .int v4), (5, .int v5), (6, .int v6)] [] := by
  refine bl_Cb_rule_17 hO1 hr2 hO3 hM hdp (Nat.zero_le _) (Nat.zero_le _) (fun v n' S' I' hv => ?_)
  obtain ⟨e1, e2, hv⟩ := hv
  subst e1
  subst e2
  exact K v I' hv
theorem bp_Cb_rule_33 {d : Nat} {B : kv_B} {Q : kv_Q} {kc ks n : Nat} {S : kv_SM} {I : kv_IM} {dc : Nat} {Qv : Option Value → kv_IM → Prop} {a0 : Nat} {v1 : Int32} {v2 : Int32} {v3 : Int32} {v4 : Int32} {v5 : Int32} {v6 : Int32} {r1 : Nat → Option Nat} (hO1 : S a0 = kO 5 r1) (hM : kv_P y_Cb_forgetAllCuts dc B [.ref a0] n S I Qv) (hdp : dc + 1 ≤ d) (K : ∀ v I', Qv v I' → kv_V y_Cb_rule d B Q kc ks n S I' 37 [(0, .ref a0), (1, .int v1), (2, .int v2), (3, .int v3), (4, .int v4), (5, .int v5), (6, .int v6)] (v.toList ++ [])) : kv_V y_Cb_rule d B Q kc ks n S I 33 [(0, .ref a0), (1, .int v1), (2, .int v2), (3, .int v3), (4, .int v4), (5, .int v5), (6, .int v6)] [] := by
  refine bl_Cb_rule_33 hO1 hM hdp (Nat.zero_le _) (Nat.zero_le _) (fun v n' S' I' hv => ?_)
  obtain ⟨e1, e2, hv⟩ := hv
  subst e1
  subst e2
  exact K v I' hv
theorem bp_Cb_add_0 {d : Nat} {B : kv_B} {Q : kv_Q} {kc ks n : Nat} {S : kv_SM} {I : kv_IM} {dc : Nat} {Qv : Option Value → kv_IM → Prop} {a0 : Nat} {v1 : Int32} {v2 : Int32}  (hM : kv_P y_Cb_isText dc B [.int v1] n S I Qv) (hdp : dc + 1 ≤ d) (K : ∀ v I', Qv v I' → kv_V y_Cb_add d B Q kc ks n S I' 4 [(0, .ref a0), (1, .int v1), (2, .int v2)] (v.toList ++ [])) : kv_V y_Cb_add d B Q kc ks n S I 0 [(0, .ref a0), (1, .int v1), (2, .int v2)] [] := by
  refine bl_Cb_add_0  hM hdp (Nat.zero_le _) (Nat.zero_le _) (fun v n' S' I' hv => ?_)
  obtain ⟨e1, e2, hv⟩ := hv
  subst e1
  subst e2
  exact K v I' hv
theorem bp_Cb_add_7 {d : Nat} {B : kv_B} {Q : kv_Q} {kc ks n : Nat} {S : kv_SM} {I : kv_IM} {dc : Nat} {Qv : Option Value → kv_IM → Prop} {a0 : Nat} {v1 : Int32} {v2 : Int32}  (hM : kv_P y_Cb_isByte dc B [.int v2] n S I Qv) (hdp : dc + 1 ≤ d) (K : ∀ v I', Qv v I' → kv_V y_Cb_add d B Q kc ks n S I' 11 [(0, .ref a0), (1, .int v1), (2, .int v2)] (v.toList ++ [])) : kv_V y_Cb_add d B Q kc ks n S I 7 [(0, .ref a0), (1, .int v1), (2, .int v2)] [] := by
  refine bl_Cb_add_7  hM hdp (Nat.zero_le _) (Nat.zero_le _) (fun v n' S' I' hv => ?_)
  obtain ⟨e1, e2, hv⟩ := hv
  subst e1
  subst e2
  exact K v I' hv
theorem bp_Cb_add_16 {d : Nat} {B : kv_B} {Q : kv_Q} {kc ks n : Nat} {S : kv_SM} {I : kv_IM} {dc : Nat} {Qv : Option Value → kv_IM → Prop} {a0 : Nat} {v1 : Int32} {v2 : Int32} {r1 : Nat → Option Nat} {q2 : Nat} {m3 : Nat} {r3 : Nat → Option Nat} {j4 : Nat} {q5 : Nat} {r6 : Nat → Option Nat} (hO1 : S a0 = kO 5 r1) (hr2 : r1 1 = some q2) (hA3 : S q2 = kA 4 m3 r3) (hi4 : v1 = nI j4 ∧ j4 < m3 ∧ m3 < 2 ^ 31) (he5 : r3 j4 = some q5) (hO6 : S q5 = kO 4 r6) (hM : kv_P y_Txt_put dc B [.ref q5, .int (I q5 1), .int v2] n S I Qv) (hdp : dc + 1 ≤ d) (K : ∀ v I', Qv v I' → kv_V y_Cb_add d B Q kc ks n S I' 35 [(0, .ref a0), (1, .int v1), (2, .int v2)] (v.toList ++ [])) : kv_V y_Cb_add d B Q kc ks n S I 16 [(0, .ref a0), (1, .int v1), (2, .int v2)] [] := by
  refine bl_Cb_add_16 hO1 hr2 hA3 hi4 he5 hO6 hM hdp (Nat.zero_le _) (Nat.zero_le _) (fun v n' S' I' hv => ?_)
  obtain ⟨e1, e2, hv⟩ := hv
  subst e1
  subst e2
  exact K v I' hv
theorem bp_Cb_fill_0 {d : Nat} {B : kv_B} {Q : kv_Q} {kc ks n : Nat} {S : kv_SM} {I : kv_IM} {dc : Nat} {Qv : Option Value → kv_IM → Prop} {a0 : Nat} {v1 : Int32} {v2 : Int32} {v3 : Int32} {v4 : Int32}  (hM : kv_P y_Cb_isText dc B [.int v1] n S I Qv) (hdp : dc + 1 ≤ d) (K : ∀ v I', Qv v I' → kv_V y_Cb_fill d B Q kc ks n S I' 4 [(0, .ref a0), (1, .int v1), (2, .int v2), (3, .int v3), (4, .int v4)] (v.toList ++ [])) : kv_V y_Cb_fill d B Q kc ks n S I 0 [(0, .ref a0), (1, .int v1), (2, .int v2), (3, .int v3), (4, .int v4)] [] := by
  refine bl_Cb_fill_0  hM hdp (Nat.zero_le _) (Nat.zero_le _) (fun v n' S' I' hv => ?_)
  obtain ⟨e1, e2, hv⟩ := hv
  subst e1
  subst e2
  exact K v I' hv
theorem bp_Cb_fill_35 {d : Nat} {B : kv_B} {Q : kv_Q} {kc ks n : Nat} {S : kv_SM} {I : kv_IM} {dc : Nat} {Qv : Option Value → kv_IM → Prop} {a0 : Nat} {v1 : Int32} {v2 : Int32} {v3 : Int32} {v4 : Int32} {r1 : Nat → Option Nat} {q2 : Nat} {m3 : Nat} {r3 : Nat → Option Nat} {j4 : Nat} {q5 : Nat} {r6 : Nat → Option Nat} (hO1 : S a0 = kO 5 r1) (hr2 : r1 1 = some q2) (hA3 : S q2 = kA 4 m3 r3) (hi4 : v1 = nI j4 ∧ j4 < m3 ∧ m3 < 2 ^ 31) (he5 : r3 j4 = some q5) (hO6 : S q5 = kO 4 r6) (hM : kv_P y_Txt_sow dc B [.ref q5, .int v2, .int v3, .int v4] n S I Qv) (hdp : dc + 1 ≤ d) (K : ∀ v I', Qv v I' → kv_V y_Cb_fill d B Q kc ks n S I' 48 [(0, .ref a0), (1, .int v1), (2, .int v2), (3, .int v3), (4, .int v4)] (v.toList ++ [])) : kv_V y_Cb_fill d B Q kc ks n S I 35 [(0, .ref a0), (1, .int v1), (2, .int v2), (3, .int v3), (4, .int v4)] [] := by
  refine bl_Cb_fill_35 hO1 hr2 hA3 hi4 he5 hO6 hM hdp (Nat.zero_le _) (Nat.zero_le _) (fun v n' S' I' hv => ?_)
  obtain ⟨e1, e2, hv⟩ := hv
  subst e1
  subst e2
  exact K v I' hv
theorem bp_Cb_insert_0 {d : Nat} {B : kv_B} {Q : kv_Q} {kc ks n : Nat} {S : kv_SM} {I : kv_IM} {dc : Nat} {Qv : Option Value → kv_IM → Prop} {a0 : Nat} {v1 : Int32} {v2 : Int32} {v3 : Int32}  (hM : kv_P y_Cb_isText dc B [.int v1] n S I Qv) (hdp : dc + 1 ≤ d) (K : ∀ v I', Qv v I' → kv_V y_Cb_insert d B Q kc ks n S I' 4 [(0, .ref a0), (1, .int v1), (2, .int v2), (3, .int v3)] (v.toList ++ [])) : kv_V y_Cb_insert d B Q kc ks n S I 0 [(0, .ref a0), (1, .int v1), (2, .int v2), (3, .int v3)] [] := by
  refine bl_Cb_insert_0  hM hdp (Nat.zero_le _) (Nat.zero_le _) (fun v n' S' I' hv => ?_)
  obtain ⟨e1, e2, hv⟩ := hv
  subst e1
  subst e2
  exact K v I' hv
theorem bp_Cb_insert_24 {d : Nat} {B : kv_B} {Q : kv_Q} {kc ks n : Nat} {S : kv_SM} {I : kv_IM} {dc : Nat} {Qv : Option Value → kv_IM → Prop} {a0 : Nat} {v1 : Int32} {v2 : Int32} {v3 : Int32}  (hM : kv_P y_Cb_isByte dc B [.int v3] n S I Qv) (hdp : dc + 1 ≤ d) (K : ∀ v I', Qv v I' → kv_V y_Cb_insert d B Q kc ks n S I' 28 [(0, .ref a0), (1, .int v1), (2, .int v2), (3, .int v3)] (v.toList ++ [])) : kv_V y_Cb_insert d B Q kc ks n S I 24 [(0, .ref a0), (1, .int v1), (2, .int v2), (3, .int v3)] [] := by
  refine bl_Cb_insert_24  hM hdp (Nat.zero_le _) (Nat.zero_le _) (fun v n' S' I' hv => ?_)
  obtain ⟨e1, e2, hv⟩ := hv
  subst e1
  subst e2
  exact K v I' hv
theorem bp_Cb_insert_33 {d : Nat} {B : kv_B} {Q : kv_Q} {kc ks n : Nat} {S : kv_SM} {I : kv_IM} {dc : Nat} {Qv : Option Value → kv_IM → Prop} {a0 : Nat} {v1 : Int32} {v2 : Int32} {v3 : Int32} {r1 : Nat → Option Nat} {q2 : Nat} {m3 : Nat} {r3 : Nat → Option Nat} {j4 : Nat} {q5 : Nat} {r6 : Nat → Option Nat} (hO1 : S a0 = kO 5 r1) (hr2 : r1 1 = some q2) (hA3 : S q2 = kA 4 m3 r3) (hi4 : v1 = nI j4 ∧ j4 < m3 ∧ m3 < 2 ^ 31) (he5 : r3 j4 = some q5) (hO6 : S q5 = kO 4 r6) (hM : kv_P y_Txt_put dc B [.ref q5, .int v2, .int v3] n S I Qv) (hdp : dc + 1 ≤ d) (K : ∀ v I', Qv v I' → kv_V y_Cb_insert d B Q kc ks n S I' 44 [(0, .ref a0), (1, .int v1), (2, .int v2), (3, .int v3)] (v.toList ++ [])) : kv_V y_Cb_insert d B Q kc ks n S I 33 [(0, .ref a0), (1, .int v1), (2, .int v2), (3, .int v3)] [] := by
  refine bl_Cb_insert_33 hO1 hr2 hA3 hi4 he5 hO6 hM hdp (Nat.zero_le _) (Nat.zero_le _) (fun v n' S' I' hv => ?_)
  obtain ⟨e1, e2, hv⟩ := hv
  subst e1
  subst e2
  exact K v I' hv
theorem bp_Cb_remove_0 {d : Nat} {B : kv_B} {Q : kv_Q} {kc ks n : Nat} {S : kv_SM} {I : kv_IM} {dc : Nat} {Qv : Option Value → kv_IM → Prop} {a0 : Nat} {v1 : Int32} {v2 : Int32} {v3 : Int32}  (hM : kv_P y_Cb_isText dc B [.int v1] n S I Qv) (hdp : dc + 1 ≤ d) (K : ∀ v I', Qv v I' → kv_V y_Cb_remove d B Q kc ks n S I' 4 [(0, .ref a0), (1, .int v1), (2, .int v2), (3, .int v3)] (v.toList ++ [])) : kv_V y_Cb_remove d B Q kc ks n S I 0 [(0, .ref a0), (1, .int v1), (2, .int v2), (3, .int v3)] [] := by
  refine bl_Cb_remove_0  hM hdp (Nat.zero_le _) (Nat.zero_le _) (fun v n' S' I' hv => ?_)
  obtain ⟨e1, e2, hv⟩ := hv
  subst e1
  subst e2
  exact K v I' hv
theorem bp_Cb_remove_47 {d : Nat} {B : kv_B} {Q : kv_Q} {kc ks n : Nat} {S : kv_SM} {I : kv_IM} {dc : Nat} {Qv : Option Value → kv_IM → Prop} {a0 : Nat} {v1 : Int32} {v2 : Int32} {v3 : Int32} {r1 : Nat → Option Nat} {q2 : Nat} {m3 : Nat} {r3 : Nat → Option Nat} {j4 : Nat} {q5 : Nat} {r6 : Nat → Option Nat} (hO1 : S a0 = kO 5 r1) (hr2 : r1 1 = some q2) (hA3 : S q2 = kA 4 m3 r3) (hi4 : v1 = nI j4 ∧ j4 < m3 ∧ m3 < 2 ^ 31) (he5 : r3 j4 = some q5) (hO6 : S q5 = kO 4 r6) (hM : kv_P y_Txt_take dc B [.ref q5, .int v2, .int v3] n S I Qv) (hdp : dc + 1 ≤ d) (K : ∀ v I', Qv v I' → kv_V y_Cb_remove d B Q kc ks n S I' 58 [(0, .ref a0), (1, .int v1), (2, .int v2), (3, .int v3)] (v.toList ++ [])) : kv_V y_Cb_remove d B Q kc ks n S I 47 [(0, .ref a0), (1, .int v1), (2, .int v2), (3, .int v3)] [] := by
  refine bl_Cb_remove_47 hO1 hr2 hA3 hi4 he5 hO6 hM hdp (Nat.zero_le _) (Nat.zero_le _) (fun v n' S' I' hv => ?_)
  obtain ⟨e1, e2, hv⟩ := hv
  subst e1
  subst e2
  exact K v I' hv
theorem bp_Cb_copy_0 {d : Nat} {B : kv_B} {Q : kv_Q} {kc ks n : Nat} {S : kv_SM} {I : kv_IM} {dc : Nat} {Qv : Option Value → kv_IM → Prop} {a0 : Nat} {v1 : Int32} {v2 : Int32}  (hM : kv_P y_Cb_isText dc B [.int v1] n S I Qv) (hdp : dc + 1 ≤ d) (K : ∀ v I', Qv v I' → kv_V y_Cb_copy d B Q kc ks n S I' 4 [(0, .ref a0), (1, .int v1), (2, .int v2)] (v.toList ++ [])) : kv_V y_Cb_copy d B Q kc ks n S I 0 [(0, .ref a0), (1, .int v1), (2, .int v2)] [] := by
  refine bl_Cb_copy_0  hM hdp (Nat.zero_le _) (Nat.zero_le _) (fun v n' S' I' hv => ?_)
  obtain ⟨e1, e2, hv⟩ := hv
  subst e1
  subst e2
  exact K v I' hv
theorem bp_Cb_copy_7 {d : Nat} {B : kv_B} {Q : kv_Q} {kc ks n : Nat} {S : kv_SM} {I : kv_IM} {dc : Nat} {Qv : Option Value → kv_IM → Prop} {a0 : Nat} {v1 : Int32} {v2 : Int32}  (hM : kv_P y_Cb_isText dc B [.int v2] n S I Qv) (hdp : dc + 1 ≤ d) (K : ∀ v I', Qv v I' → kv_V y_Cb_copy d B Q kc ks n S I' 11 [(0, .ref a0), (1, .int v1), (2, .int v2)] (v.toList ++ [])) : kv_V y_Cb_copy d B Q kc ks n S I 7 [(0, .ref a0), (1, .int v1), (2, .int v2)] [] := by
  refine bl_Cb_copy_7  hM hdp (Nat.zero_le _) (Nat.zero_le _) (fun v n' S' I' hv => ?_)
  obtain ⟨e1, e2, hv⟩ := hv
  subst e1
  subst e2
  exact K v I' hv
theorem bp_Cb_copy_16 {d : Nat} {B : kv_B} {Q : kv_Q} {kc ks n : Nat} {S : kv_SM} {I : kv_IM} {dc : Nat} {Qv : Option Value → kv_IM → Prop} {a0 : Nat} {v1 : Int32} {v2 : Int32} {r1 : Nat → Option Nat} {q2 : Nat} {m3 : Nat} {r3 : Nat → Option Nat} {j4 : Nat} {q5 : Nat} {j6 : Nat} {q7 : Nat} {r8 : Nat → Option Nat} (hO1 : S a0 = kO 5 r1) (hr2 : r1 1 = some q2) (hA3 : S q2 = kA 4 m3 r3) (hi4 : v1 = nI j4 ∧ j4 < m3 ∧ m3 < 2 ^ 31) (he5 : r3 j4 = some q5) (hi6 : v2 = nI j6 ∧ j6 < m3 ∧ m3 < 2 ^ 31) (he7 : r3 j6 = some q7) (hO8 : S q5 = kO 4 r8) (hM : kv_P y_Txt_become dc B [.ref q5, .ref q7] n S I Qv) (hdp : dc + 1 ≤ d) (K : ∀ v I', Qv v I' → kv_V y_Cb_copy d B Q kc ks n S I' 31 [(0, .ref a0), (1, .int v1), (2, .int v2)] (v.toList ++ [])) : kv_V y_Cb_copy d B Q kc ks n S I 16 [(0, .ref a0), (1, .int v1), (2, .int v2)] [] := by
  refine bl_Cb_copy_16 hO1 hr2 hA3 hi4 he5 hi6 he7 hO8 hM hdp (Nat.zero_le _) (Nat.zero_le _) (fun v n' S' I' hv => ?_)
  obtain ⟨e1, e2, hv⟩ := hv
  subst e1
  subst e2
  exact K v I' hv
theorem bp_Cb_size_0 {d : Nat} {B : kv_B} {Q : kv_Q} {kc ks n : Nat} {S : kv_SM} {I : kv_IM} {dc : Nat} {Qv : Option Value → kv_IM → Prop} {a0 : Nat} {v1 : Int32}  (hM : kv_P y_Cb_isText dc B [.int v1] n S I Qv) (hdp : dc + 1 ≤ d) (K : ∀ v I', Qv v I' → kv_V y_Cb_size d B Q kc ks n S I' 4 [(0, .ref a0), (1, .int v1)] (v.toList ++ [])) : kv_V y_Cb_size d B Q kc ks n S I 0 [(0, .ref a0), (1, .int v1)] [] := by
  refine bl_Cb_size_0  hM hdp (Nat.zero_le _) (Nat.zero_le _) (fun v n' S' I' hv => ?_)
  obtain ⟨e1, e2, hv⟩ := hv
  subst e1
  subst e2
  exact K v I' hv
theorem bp_Cb_byteAt_0 {d : Nat} {B : kv_B} {Q : kv_Q} {kc ks n : Nat} {S : kv_SM} {I : kv_IM} {dc : Nat} {Qv : Option Value → kv_IM → Prop} {a0 : Nat} {v1 : Int32} {v2 : Int32} {r1 : Nat → Option Nat} (hO1 : S a0 = kO 5 r1) (hM : kv_P y_Cb_hasByte dc B [.ref a0, .int v1, .int v2] n S I Qv) (hdp : dc + 1 ≤ d) (K : ∀ v I', Qv v I' → kv_V y_Cb_byteAt d B Q kc ks n S I' 6 [(0, .ref a0), (1, .int v1), (2, .int v2)] (v.toList ++ [])) : kv_V y_Cb_byteAt d B Q kc ks n S I 0 [(0, .ref a0), (1, .int v1), (2, .int v2)] [] := by
  refine bl_Cb_byteAt_0 hO1 hM hdp (Nat.zero_le _) (Nat.zero_le _) (fun v n' S' I' hv => ?_)
  obtain ⟨e1, e2, hv⟩ := hv
  subst e1
  subst e2
  exact K v I' hv
theorem bp_Cb_hasByte_0 {d : Nat} {B : kv_B} {Q : kv_Q} {kc ks n : Nat} {S : kv_SM} {I : kv_IM} {dc : Nat} {Qv : Option Value → kv_IM → Prop} {a0 : Nat} {v1 : Int32} {v2 : Int32}  (hM : kv_P y_Cb_isText dc B [.int v1] n S I Qv) (hdp : dc + 1 ≤ d) (K : ∀ v I', Qv v I' → kv_V y_Cb_hasByte d B Q kc ks n S I' 4 [(0, .ref a0), (1, .int v1), (2, .int v2)] (v.toList ++ [])) : kv_V y_Cb_hasByte d B Q kc ks n S I 0 [(0, .ref a0), (1, .int v1), (2, .int v2)] [] := by
  refine bl_Cb_hasByte_0  hM hdp (Nat.zero_le _) (Nat.zero_le _) (fun v n' S' I' hv => ?_)
  obtain ⟨e1, e2, hv⟩ := hv
  subst e1
  subst e2
  exact K v I' hv
theorem bp_Cb_blocks_0 {d : Nat} {B : kv_B} {Q : kv_Q} {kc ks n : Nat} {S : kv_SM} {I : kv_IM} {dc : Nat} {Qv : Option Value → kv_IM → Prop} {a0 : Nat} {v1 : Int32}  (hM : kv_P y_Cb_isText dc B [.int v1] n S I Qv) (hdp : dc + 1 ≤ d) (K : ∀ v I', Qv v I' → kv_V y_Cb_blocks d B Q kc ks n S I' 4 [(0, .ref a0), (1, .int v1)] (v.toList ++ [])) : kv_V y_Cb_blocks d B Q kc ks n S I 0 [(0, .ref a0), (1, .int v1)] [] := by
  refine bl_Cb_blocks_0  hM hdp (Nat.zero_le _) (Nat.zero_le _) (fun v n' S' I' hv => ?_)
  obtain ⟨e1, e2, hv⟩ := hv
  subst e1
  subst e2
  exact K v I' hv
theorem bp_Cb_blocks_7 {d : Nat} {B : kv_B} {Q : kv_Q} {kc ks n : Nat} {S : kv_SM} {I : kv_IM} {dc : Nat} {Qv : Option Value → kv_IM → Prop} {a0 : Nat} {v1 : Int32} {r1 : Nat → Option Nat} (hO1 : S a0 = kO 5 r1) (hM : kv_P y_Cb_cutRow dc B [.ref a0, .int v1] n S I Qv) (hdp : dc + 1 ≤ d) (K : ∀ v I', Qv v I' → kv_V y_Cb_blocks d B Q kc ks n S I' 12 [(0, .ref a0), (1, .int v1)] (v.toList ++ [])) : kv_V y_Cb_blocks d B Q kc ks n S I 7 [(0, .ref a0), (1, .int v1)] [] := by
  refine bl_Cb_blocks_7 hO1 hM hdp (Nat.zero_le _) (Nat.zero_le _) (fun v n' S' I' hv => ?_)
  obtain ⟨e1, e2, hv⟩ := hv
  subst e1
  subst e2
  exact K v I' hv
theorem bp_Cb_cutRow_0 {d : Nat} {B : kv_B} {Q : kv_Q} {kc ks n : Nat} {S : kv_SM} {I : kv_IM} {dc : Nat} {Qv : Option Value → kv_IM → Prop} {a0 : Nat} {v1 : Int32} {r1 : Nat → Option Nat} {q2 : Nat} {m3 : Nat} {r3 : Nat → Option Nat} {j4 : Nat} {q5 : Nat} {q6 : Nat} {r7 : Nat → Option Nat} (hO1 : S a0 = kO 5 r1) (hr2 : r1 1 = some q2) (hA3 : S q2 = kA 4 m3 r3) (hi4 : v1 = nI j4 ∧ j4 < m3 ∧ m3 < 2 ^ 31) (he5 : r3 j4 = some q5) (hr6 : r1 0 = some q6) (hO7 : S q5 = kO 4 r7) (hM : kv_P y_Txt_cutBy dc B [.ref q5, .ref q6] n S I Qv) (hdp : dc + 1 ≤ d) (K : ∀ v I', Qv v I' → kv_V y_Cb_cutRow d B Q kc ks n S I' 13 [(0, .ref a0), (1, .int v1)] (v.toList ++ [])) : kv_V y_Cb_cutRow d B Q kc ks n S I 0 [(0, .ref a0), (1, .int v1)] [] := by
  refine bl_Cb_cutRow_0 hO1 hr2 hA3 hi4 he5 hr6 hO7 hM hdp (Nat.zero_le _) (Nat.zero_le _) (fun v n' S' I' hv => ?_)
  obtain ⟨e1, e2, hv⟩ := hv
  subst e1
  subst e2
  exact K v I' hv
theorem bp_Cb_block_0 {d : Nat} {B : kv_B} {Q : kv_Q} {kc ks n : Nat} {S : kv_SM} {I : kv_IM} {dc : Nat} {Qv : Option Value → kv_IM → Prop} {a0 : Nat} {v1 : Int32} {v2 : Int32} {v3 : Int32} {r1 : Nat → Option Nat} (hO1 : S a0 = kO 5 r1) (hM : kv_P y_Cb_hasBlock dc B [.ref a0, .int v1, .int v2] n S I Qv) (hdp : dc + 1 ≤ d) (K : ∀ v I', Qv v I' → kv_V y_Cb_block d B Q kc ks n S I' 6 [(0, .ref a0), (1, .int v1), (2, .int v2), (3, .int v3)] (v.toList ++ [])) : kv_V y_Cb_block d B Q kc ks n S I 0 [(0, .ref a0), (1, .int v1), (2, .int v2), (3, .int v3)] [] := by
  refine bl_Cb_block_0 hO1 hM hdp (Nat.zero_le _) (Nat.zero_le _) (fun v n' S' I' hv => ?_)
  obtain ⟨e1, e2, hv⟩ := hv
  subst e1
  subst e2
  exact K v I' hv
theorem bp_Cb_block_20 {d : Nat} {B : kv_B} {Q : kv_Q} {kc ks n : Nat} {S : kv_SM} {I : kv_IM} {dc : Nat} {Qv : Option Value → kv_IM → Prop} {a0 : Nat} {v1 : Int32} {v2 : Int32} {v3 : Int32} {r1 : Nat → Option Nat} (hO1 : S a0 = kO 5 r1) (hM : kv_P y_Cb_cutRow dc B [.ref a0, .int v1] n S I Qv) (hdp : dc + 1 ≤ d) (K : ∀ v I', Qv v I' → kv_V y_Cb_block d B Q kc ks n S I' 25 [(0, .ref a0), (1, .int v1), (2, .int v2), (3, .int v3)] (v.toList ++ [])) : kv_V y_Cb_block d B Q kc ks n S I 20 [(0, .ref a0), (1, .int v1), (2, .int v2), (3, .int v3)] [] := by
  refine bl_Cb_block_20 hO1 hM hdp (Nat.zero_le _) (Nat.zero_le _) (fun v n' S' I' hv => ?_)
  obtain ⟨e1, e2, hv⟩ := hv
  subst e1
  subst e2
  exact K v I' hv
theorem bp_Cb_block_41 {d : Nat} {B : kv_B} {Q : kv_Q} {kc ks n : Nat} {S : kv_SM} {I : kv_IM} {dc : Nat} {Qv : Option Value → kv_IM → Prop} {a0 : Nat} {v1 : Int32} {v2 : Int32} {v3 : Int32} {a4 : Nat} {r1 : Nat → Option Nat} (hO1 : S a4 = kO 0 r1) (hM : kv_P y_Row_bytesOf dc B [.ref a4, .int v2] n S I Qv) (hdp : dc + 1 ≤ d) (K : ∀ v I', Qv v I' → kv_V y_Cb_block d B Q kc ks n S I' 47 [(0, .ref a0), (1, .int v1), (2, .int v2), (3, .int v3), (4, .ref a4)] (v.toList ++ [])) : kv_V y_Cb_block d B Q kc ks n S I 41 [(0, .ref a0), (1, .int v1), (2, .int v2), (3, .int v3), (4, .ref a4)] [] := by
  refine bl_Cb_block_41 hO1 hM hdp (Nat.zero_le _) (Nat.zero_le _) (fun v n' S' I' hv => ?_)
  obtain ⟨e1, e2, hv⟩ := hv
  subst e1
  subst e2
  exact K v I' hv
theorem bp_Cb_hasBlock_0 {d : Nat} {B : kv_B} {Q : kv_Q} {kc ks n : Nat} {S : kv_SM} {I : kv_IM} {dc : Nat} {Qv : Option Value → kv_IM → Prop} {a0 : Nat} {v1 : Int32} {v2 : Int32}  (hM : kv_P y_Cb_isText dc B [.int v1] n S I Qv) (hdp : dc + 1 ≤ d) (K : ∀ v I', Qv v I' → kv_V y_Cb_hasBlock d B Q kc ks n S I' 4 [(0, .ref a0), (1, .int v1), (2, .int v2)] (v.toList ++ [])) : kv_V y_Cb_hasBlock d B Q kc ks n S I 0 [(0, .ref a0), (1, .int v1), (2, .int v2)] [] := by
  refine bl_Cb_hasBlock_0  hM hdp (Nat.zero_le _) (Nat.zero_le _) (fun v n' S' I' hv => ?_)
  obtain ⟨e1, e2, hv⟩ := hv
  subst e1
  subst e2
  exact K v I' hv
theorem bp_Cb_hasBlock_11 {d : Nat} {B : kv_B} {Q : kv_Q} {kc ks n : Nat} {S : kv_SM} {I : kv_IM} {dc : Nat} {Qv : Option Value → kv_IM → Prop} {a0 : Nat} {v1 : Int32} {v2 : Int32} {r1 : Nat → Option Nat} (hO1 : S a0 = kO 5 r1) (hM : kv_P y_Cb_cutRow dc B [.ref a0, .int v1] n S I Qv) (hdp : dc + 1 ≤ d) (K : ∀ v I', Qv v I' → kv_V y_Cb_hasBlock d B Q kc ks n S I' 17 [(0, .ref a0), (1, .int v1), (2, .int v2)] (v.toList ++ [.int v2])) : kv_V y_Cb_hasBlock d B Q kc ks n S I 11 [(0, .ref a0), (1, .int v1), (2, .int v2)] [] := by
  refine bl_Cb_hasBlock_11 hO1 hM hdp (Nat.zero_le _) (Nat.zero_le _) (fun v n' S' I' hv => ?_)
  obtain ⟨e1, e2, hv⟩ := hv
  subst e1
  subst e2
  exact K v I' hv
theorem bp_Cb_digest_0 {d : Nat} {B : kv_B} {Q : kv_Q} {kc ks n : Nat} {S : kv_SM} {I : kv_IM} {dc : Nat} {Qv : Option Value → kv_IM → Prop} {a0 : Nat} {v1 : Int32} {v2 : Int32} {v3 : Int32} {r1 : Nat → Option Nat} (hO1 : S a0 = kO 5 r1) (hM : kv_P y_Cb_hasBlock dc B [.ref a0, .int v1, .int v2] n S I Qv) (hdp : dc + 1 ≤ d) (K : ∀ v I', Qv v I' → kv_V y_Cb_digest d B Q kc ks n S I' 6 [(0, .ref a0), (1, .int v1), (2, .int v2), (3, .int v3)] (v.toList ++ [])) : kv_V y_Cb_digest d B Q kc ks n S I 0 [(0, .ref a0), (1, .int v1), (2, .int v2), (3, .int v3)] [] := by
  refine bl_Cb_digest_0 hO1 hM hdp (Nat.zero_le _) (Nat.zero_le _) (fun v n' S' I' hv => ?_)
  obtain ⟨e1, e2, hv⟩ := hv
  subst e1
  subst e2
  exact K v I' hv
theorem bp_Cb_digest_22 {d : Nat} {B : kv_B} {Q : kv_Q} {kc ks n : Nat} {S : kv_SM} {I : kv_IM} {dc : Nat} {Qv : Option Value → kv_IM → Prop} {a0 : Nat} {v1 : Int32} {v2 : Int32} {v3 : Int32} {r1 : Nat → Option Nat} (hO1 : S a0 = kO 5 r1) (hM : kv_P y_Cb_cutRow dc B [.ref a0, .int v1] n S I Qv) (hdp : dc + 1 ≤ d) (K : ∀ v I', Qv v I' → kv_V y_Cb_digest d B Q kc ks n S I' 27 [(0, .ref a0), (1, .int v1), (2, .int v2), (3, .int v3)] (v.toList ++ [])) : kv_V y_Cb_digest d B Q kc ks n S I 22 [(0, .ref a0), (1, .int v1), (2, .int v2), (3, .int v3)] [] := by
  refine bl_Cb_digest_22 hO1 hM hdp (Nat.zero_le _) (Nat.zero_le _) (fun v n' S' I' hv => ?_)
  obtain ⟨e1, e2, hv⟩ := hv
  subst e1
  subst e2
  exact K v I' hv
theorem bp_Cb_digest_33 {d : Nat} {B : kv_B} {Q : kv_Q} {kc ks n : Nat} {S : kv_SM} {I : kv_IM} {dc : Nat} {Qv : Option Value → kv_IM → Prop} {a0 : Nat} {v1 : Int32} {v2 : Int32} {v3 : Int32} {a4 : Nat} {r1 : Nat → Option Nat} (hO1 : S a4 = kO 0 r1) (hM : kv_P y_Row_mixedSum dc B [.ref a4, .int v2] n S I Qv) (hdp : dc + 1 ≤ d) (K : ∀ v I', Qv v I' → kv_V y_Cb_digest d B Q kc ks n S I' 39 [(0, .ref a0), (1, .int v1), (2, .int v2), (3, .int v3), (4, .ref a4)] (v.toList ++ [])) : kv_V y_Cb_digest d B Q kc ks n S I 33 [(0, .ref a0), (1, .int v1), (2, .int v2), (3, .int v3), (4, .ref a4)] [] := by
  refine bl_Cb_digest_33 hO1 hM hdp (Nat.zero_le _) (Nat.zero_le _) (fun v n' S' I' hv => ?_)
  obtain ⟨e1, e2, hv⟩ := hv
  subst e1
  subst e2
  exact K v I' hv
theorem bp_Cb_digest_39 {d : Nat} {B : kv_B} {Q : kv_Q} {kc ks n : Nat} {S : kv_SM} {I : kv_IM} {dc : Nat} {Qv : Option Value → kv_IM → Prop} {a0 : Nat} {v1 : Int32} {v2 : Int32} {v3 : Int32} {a4 : Nat} {t0 : Int32}  (hM : kv_P y_Cb_unsigned dc B [.int t0] n S I Qv) (hdp : dc + 1 ≤ d) (K : ∀ v I', Qv v I' → kv_V y_Cb_digest d B Q kc ks n S I' 42 [(0, .ref a0), (1, .int v1), (2, .int v2), (3, .int v3), (4, .ref a4)] (v.toList ++ [])) : kv_V y_Cb_digest d B Q kc ks n S I 39 [(0, .ref a0), (1, .int v1), (2, .int v2), (3, .int v3), (4, .ref a4)] [.int t0] := by
  refine bl_Cb_digest_39  hM hdp (Nat.zero_le _) (Nat.zero_le _) (fun v n' S' I' hv => ?_)
  obtain ⟨e1, e2, hv⟩ := hv
  subst e1
  subst e2
  exact K v I' hv
theorem bp_Cb_digest_45 {d : Nat} {B : kv_B} {Q : kv_Q} {kc ks n : Nat} {S : kv_SM} {I : kv_IM} {dc : Nat} {Qv : Option Value → kv_IM → Prop} {a0 : Nat} {v1 : Int32} {v2 : Int32} {v3 : Int32} {a4 : Nat} {r1 : Nat → Option Nat} (hO1 : S a4 = kO 0 r1) (hM : kv_P y_Row_doubleSum dc B [.ref a4, .int v2] n S I Qv) (hdp : dc + 1 ≤ d) (K : ∀ v I', Qv v I' → kv_V y_Cb_digest d B Q kc ks n S I' 51 [(0, .ref a0), (1, .int v1), (2, .int v2), (3, .int v3), (4, .ref a4)] (v.toList ++ [])) : kv_V y_Cb_digest d B Q kc ks n S I 45 [(0, .ref a0), (1, .int v1), (2, .int v2), (3, .int v3), (4, .ref a4)] [] := by
  refine bl_Cb_digest_45 hO1 hM hdp (Nat.zero_le _) (Nat.zero_le _) (fun v n' S' I' hv => ?_)
  obtain ⟨e1, e2, hv⟩ := hv
  subst e1
  subst e2
  exact K v I' hv
theorem bp_Cb_hash_0 {d : Nat} {B : kv_B} {Q : kv_Q} {kc ks n : Nat} {S : kv_SM} {I : kv_IM} {dc : Nat} {Qv : Option Value → kv_IM → Prop} {a0 : Nat} {v1 : Int32} {v2 : Int32} {r1 : Nat → Option Nat} (hO1 : S a0 = kO 5 r1) (hM : kv_P y_Cb_hasByte dc B [.ref a0, .int v1, .int v2] n S I Qv) (hdp : dc + 1 ≤ d) (K : ∀ v I', Qv v I' → kv_V y_Cb_hash d B Q kc ks n S I' 6 [(0, .ref a0), (1, .int v1), (2, .int v2)] (v.toList ++ [])) : kv_V y_Cb_hash d B Q kc ks n S I 0 [(0, .ref a0), (1, .int v1), (2, .int v2)] [] := by
  refine bl_Cb_hash_0 hO1 hM hdp (Nat.zero_le _) (Nat.zero_le _) (fun v n' S' I' hv => ?_)
  obtain ⟨e1, e2, hv⟩ := hv
  subst e1
  subst e2
  exact K v I' hv
theorem bp_Cb_hash_13 {d : Nat} {B : kv_B} {Q : kv_Q} {kc ks n : Nat} {S : kv_SM} {I : kv_IM} {dc : Nat} {Qv : Option Value → kv_IM → Prop} {a0 : Nat} {v1 : Int32} {v2 : Int32} {r1 : Nat → Option Nat} (hO1 : S a0 = kO 5 r1) (hM : kv_P y_Cb_cutRow dc B [.ref a0, .int v1] n S I Qv) (hdp : dc + 1 ≤ d) (K : ∀ v I', Qv v I' → kv_V y_Cb_hash d B Q kc ks n S I' 18 [(0, .ref a0), (1, .int v1), (2, .int v2)] (v.toList ++ [])) : kv_V y_Cb_hash d B Q kc ks n S I 13 [(0, .ref a0), (1, .int v1), (2, .int v2)] [] := by
  refine bl_Cb_hash_13 hO1 hM hdp (Nat.zero_le _) (Nat.zero_le _) (fun v n' S' I' hv => ?_)
  obtain ⟨e1, e2, hv⟩ := hv
  subst e1
  subst e2
  exact K v I' hv
theorem bp_Cb_hash_18 {d : Nat} {B : kv_B} {Q : kv_Q} {kc ks n : Nat} {S : kv_SM} {I : kv_IM} {dc : Nat} {Qv : Option Value → kv_IM → Prop} {a0 : Nat} {v1 : Int32} {v2 : Int32} {t0 : Nat} {r1 : Nat → Option Nat} {q2 : Nat} {r3 : Nat → Option Nat} {q4 : Nat} (hO1 : S a0 = kO 5 r1) (hr2 : r1 0 = some q2) (hO3 : S t0 = kO 0 r3) (hr4 : r3 0 = some q4) (hM : kv_P y_Row_startOfBlockWith dc B [.ref t0, .int v2] n S I Qv) (hdp : dc + 1 ≤ d) (K : ∀ v I', Qv v I' → kv_V y_Cb_hash d B Q kc ks n S I' 32 [(0, .ref a0), (1, .int v1), (2, .int v2), (3, .ref t0)] (v.toList ++ [.ref q4, .ref q2])) : kv_V y_Cb_hash d B Q kc ks n S I 18 [(0, .ref a0), (1, .int v1), (2, .int v2)] [.ref t0] := by
  refine bl_Cb_hash_18 hO1 hr2 hO3 hr4 hM hdp (Nat.zero_le _) (Nat.zero_le _) (fun v n' S' I' hv => ?_)
  obtain ⟨e1, e2, hv⟩ := hv
  subst e1
  subst e2
  exact K v I' hv
theorem bp_Cb_hash_32 {d : Nat} {B : kv_B} {Q : kv_Q} {kc ks n : Nat} {S : kv_SM} {I : kv_IM} {dc : Nat} {Qv : Option Value → kv_IM → Prop} {a0 : Nat} {v1 : Int32} {v2 : Int32} {a3 : Nat} {t0 : Int32} {t1 : Nat} {t2 : Nat} {r1 : Nat → Option Nat} (hO1 : S t2 = kO 1 r1) (hM : kv_P y_Rul_numberAt dc B [.ref t2, .ref t1, .int t0, .int v2] n S I Qv) (hdp : dc + 1 ≤ d) (K : ∀ v I', Qv v I' → kv_V y_Cb_hash d B Q kc ks n S I' 36 [(0, .ref a0), (1, .int v1), (2, .int v2), (3, .ref a3)] (v.toList ++ [])) : kv_V y_Cb_hash d B Q kc ks n S I 32 [(0, .ref a0), (1, .int v1), (2, .int v2), (3, .ref a3)] [.int t0, .ref t1, .ref t2] := by
  refine bl_Cb_hash_32 hO1 hM hdp (Nat.zero_le _) (Nat.zero_le _) (fun v n' S' I' hv => ?_)
  obtain ⟨e1, e2, hv⟩ := hv
  subst e1
  subst e2
  exact K v I' hv
theorem bp_Cb_hash_36 {d : Nat} {B : kv_B} {Q : kv_Q} {kc ks n : Nat} {S : kv_SM} {I : kv_IM} {dc : Nat} {Qv : Option Value → kv_IM → Prop} {a0 : Nat} {v1 : Int32} {v2 : Int32} {a3 : Nat} {t0 : Int32}  (hM : kv_P y_Cb_unsigned dc B [.int t0] n S I Qv) (hdp : dc + 1 ≤ d) (K : ∀ v I', Qv v I' → kv_V y_Cb_hash d B Q kc ks n S I' 39 [(0, .ref a0), (1, .int v1), (2, .int v2), (3, .ref a3)] (v.toList ++ [])) : kv_V y_Cb_hash d B Q kc ks n S I 36 [(0, .ref a0), (1, .int v1), (2, .int v2), (3, .ref a3)] [.int t0] := by
  refine bl_Cb_hash_36  hM hdp (Nat.zero_le _) (Nat.zero_le _) (fun v n' S' I' hv => ?_)
  obtain ⟨e1, e2, hv⟩ := hv
  subst e1
  subst e2
  exact K v I' hv
theorem bp_Cb_alike_0 {d : Nat} {B : kv_B} {Q : kv_Q} {kc ks n : Nat} {S : kv_SM} {I : kv_IM} {dc : Nat} {Qv : Option Value → kv_IM → Prop} {a0 : Nat} {v1 : Int32} {v2 : Int32} {v3 : Int32}  (hM : kv_P y_Cb_isText dc B [.int v1] n S I Qv) (hdp : dc + 1 ≤ d) (K : ∀ v I', Qv v I' → kv_V y_Cb_alike d B Q kc ks n S I' 4 [(0, .ref a0), (1, .int v1), (2, .int v2), (3, .int v3)] (v.toList ++ [])) : kv_V y_Cb_alike d B Q kc ks n S I 0 [(0, .ref a0), (1, .int v1), (2, .int v2), (3, .int v3)] [] := by
  refine bl_Cb_alike_0  hM hdp (Nat.zero_le _) (Nat.zero_le _) (fun v n' S' I' hv => ?_)
  obtain ⟨e1, e2, hv⟩ := hv
  subst e1
  subst e2
  exact K v I' hv
theorem bp_Cb_alike_7 {d : Nat} {B : kv_B} {Q : kv_Q} {kc ks n : Nat} {S : kv_SM} {I : kv_IM} {dc : Nat} {Qv : Option Value → kv_IM → Prop} {a0 : Nat} {v1 : Int32} {v2 : Int32} {v3 : Int32}  (hM : kv_P y_Cb_isText dc B [.int v2] n S I Qv) (hdp : dc + 1 ≤ d) (K : ∀ v I', Qv v I' → kv_V y_Cb_alike d B Q kc ks n S I' 11 [(0, .ref a0), (1, .int v1), (2, .int v2), (3, .int v3)] (v.toList ++ [])) : kv_V y_Cb_alike d B Q kc ks n S I 7 [(0, .ref a0), (1, .int v1), (2, .int v2), (3, .int v3)] [] := by
  refine bl_Cb_alike_7  hM hdp (Nat.zero_le _) (Nat.zero_le _) (fun v n' S' I' hv => ?_)
  obtain ⟨e1, e2, hv⟩ := hv
  subst e1
  subst e2
  exact K v I' hv
theorem bp_Cb_alike_25 {d : Nat} {B : kv_B} {Q : kv_Q} {kc ks n : Nat} {S : kv_SM} {I : kv_IM} {dc : Nat} {Qv : Option Value → kv_IM → Prop} {a0 : Nat} {v1 : Int32} {v2 : Int32} {v3 : Int32} {r1 : Nat → Option Nat} (hO1 : S a0 = kO 5 r1) (hM : kv_P y_Cb_indexedRow dc B [.ref a0, .int v1] n S I Qv) (hdp : dc + 1 ≤ d) (K : ∀ v I', Qv v I' → kv_V y_Cb_alike d B Q kc ks n S I' 30 [(0, .ref a0), (1, .int v1), (2, .int v2), (3, .int v3)] (v.toList ++ [])) : kv_V y_Cb_alike d B Q kc ks n S I 25 [(0, .ref a0), (1, .int v1), (2, .int v2), (3, .int v3)] [] := by
  refine bl_Cb_alike_25 hO1 hM hdp (Nat.zero_le _) (Nat.zero_le _) (fun v n' S' I' hv => ?_)
  obtain ⟨e1, e2, hv⟩ := hv
  subst e1
  subst e2
  exact K v I' hv
theorem bp_Cb_alike_30 {d : Nat} {B : kv_B} {Q : kv_Q} {kc ks n : Nat} {S : kv_SM} {I : kv_IM} {dc : Nat} {Qv : Option Value → kv_IM → Prop} {a0 : Nat} {v1 : Int32} {v2 : Int32} {v3 : Int32} {t0 : Nat} {r1 : Nat → Option Nat} (hO1 : S a0 = kO 5 r1) (hM : kv_P y_Cb_indexedRow dc B [.ref a0, .int v2] n S I Qv) (hdp : dc + 1 ≤ d) (K : ∀ v I', Qv v I' → kv_V y_Cb_alike d B Q kc ks n S I' 37 [(0, .ref a0), (1, .int v1), (2, .int v2), (3, .int v3), (4, .ref t0)] (v.toList ++ [])) : kv_V y_Cb_alike d B Q kc ks n S I 30 [(0, .ref a0), (1, .int v1), (2, .int v2), (3, .int v3)] [.ref t0] := by
  refine bl_Cb_alike_30 hO1 hM hdp (Nat.zero_le _) (Nat.zero_le _) (fun v n' S' I' hv => ?_)
  obtain ⟨e1, e2, hv⟩ := hv
  subst e1
  subst e2
  exact K v I' hv
theorem bp_Cb_alike_68 {d : Nat} {B : kv_B} {Q : kv_Q} {kc ks n : Nat} {S : kv_SM} {I : kv_IM} {dc : Nat} {Qv : Option Value → kv_IM → Prop} {a0 : Nat} {v1 : Int32} {v2 : Int32} {v3 : Int32} {a4 : Nat} {a5 : Nat} {r1 : Nat → Option Nat} (hO1 : S a4 = kO 0 r1) (hM : kv_P y_Row_blocksIn dc B [.ref a4, .ref a5] n S I Qv) (hdp : dc + 1 ≤ d) (K : ∀ v I', Qv v I' → kv_V y_Cb_alike d B Q kc ks n S I' 75 [(0, .ref a0), (1, .int v1), (2, .int v2), (3, .int v3), (4, .ref a4), (5, .ref a5)] (v.toList ++ [])) : kv_V y_Cb_alike d B Q kc ks n S I 68 [(0, .ref a0), (1, .int v1), (2, .int v2), (3, .int v3), (4, .ref a4), (5, .ref a5)] [] := by
  refine bl_Cb_alike_68 hO1 hM hdp (Nat.zero_le _) (Nat.zero_le _) (fun v n' S' I' hv => ?_)
  obtain ⟨e1, e2, hv⟩ := hv
  subst e1
  subst e2
  exact K v I' hv
theorem bp_Cb_alike_76 {d : Nat} {B : kv_B} {Q : kv_Q} {kc ks n : Nat} {S : kv_SM} {I : kv_IM} {dc : Nat} {Qv : Option Value → kv_IM → Prop} {a0 : Nat} {v1 : Int32} {v2 : Int32} {v3 : Int32} {a4 : Nat} {a5 : Nat} {r1 : Nat → Option Nat} (hO1 : S a4 = kO 0 r1) (hM : kv_P y_Row_bytesIn dc B [.ref a4, .ref a5] n S I Qv) (hdp : dc + 1 ≤ d) (K : ∀ v I', Qv v I' → kv_V y_Cb_alike d B Q kc ks n S I' 83 [(0, .ref a0), (1, .int v1), (2, .int v2), (3, .int v3), (4, .ref a4), (5, .ref a5)] (v.toList ++ [])) : kv_V y_Cb_alike d B Q kc ks n S I 76 [(0, .ref a0), (1, .int v1), (2, .int v2), (3, .int v3), (4, .ref a4), (5, .ref a5)] [] := by
  refine bl_Cb_alike_76 hO1 hM hdp (Nat.zero_le _) (Nat.zero_le _) (fun v n' S' I' hv => ?_)
  obtain ⟨e1, e2, hv⟩ := hv
  subst e1
  subst e2
  exact K v I' hv
theorem bp_Cb_alike_84 {d : Nat} {B : kv_B} {Q : kv_Q} {kc ks n : Nat} {S : kv_SM} {I : kv_IM} {dc : Nat} {Qv : Option Value → kv_IM → Prop} {a0 : Nat} {v1 : Int32} {v2 : Int32} {v3 : Int32} {a4 : Nat} {a5 : Nat} {r1 : Nat → Option Nat} (hO1 : S a4 = kO 0 r1) (hM : kv_P y_Row_firstLike dc B [.ref a4, .ref a5] n S I Qv) (hdp : dc + 1 ≤ d) (K : ∀ v I', Qv v I' → kv_V y_Cb_alike d B Q kc ks n S I' 91 [(0, .ref a0), (1, .int v1), (2, .int v2), (3, .int v3), (4, .ref a4), (5, .ref a5)] (v.toList ++ [])) : kv_V y_Cb_alike d B Q kc ks n S I 84 [(0, .ref a0), (1, .int v1), (2, .int v2), (3, .int v3), (4, .ref a4), (5, .ref a5)] [] := by
  refine bl_Cb_alike_84 hO1 hM hdp (Nat.zero_le _) (Nat.zero_le _) (fun v n' S' I' hv => ?_)
  obtain ⟨e1, e2, hv⟩ := hv
  subst e1
  subst e2
  exact K v I' hv
theorem bp_Cb_alike_92 {d : Nat} {B : kv_B} {Q : kv_Q} {kc ks n : Nat} {S : kv_SM} {I : kv_IM} {dc : Nat} {Qv : Option Value → kv_IM → Prop} {a0 : Nat} {v1 : Int32} {v2 : Int32} {v3 : Int32} {a4 : Nat} {a5 : Nat} {r1 : Nat → Option Nat} (hO1 : S a4 = kO 0 r1) (hM : kv_P y_Row_lastLike dc B [.ref a4, .ref a5] n S I Qv) (hdp : dc + 1 ≤ d) (K : ∀ v I', Qv v I' → kv_V y_Cb_alike d B Q kc ks n S I' 99 [(0, .ref a0), (1, .int v1), (2, .int v2), (3, .int v3), (4, .ref a4), (5, .ref a5)] (v.toList ++ [])) : kv_V y_Cb_alike d B Q kc ks n S I 92 [(0, .ref a0), (1, .int v1), (2, .int v2), (3, .int v3), (4, .ref a4), (5, .ref a5)] [] := by
  refine bl_Cb_alike_92 hO1 hM hdp (Nat.zero_le _) (Nat.zero_le _) (fun v n' S' I' hv => ?_)
  obtain ⟨e1, e2, hv⟩ := hv
  subst e1
  subst e2
  exact K v I' hv
theorem bp_Cb_indexedRow_0 {d : Nat} {B : kv_B} {Q : kv_Q} {kc ks n : Nat} {S : kv_SM} {I : kv_IM} {dc : Nat} {Qv : Option Value → kv_IM → Prop} {a0 : Nat} {v1 : Int32} {r1 : Nat → Option Nat} {q2 : Nat} {m3 : Nat} {r3 : Nat → Option Nat} {j4 : Nat} {q5 : Nat} {q6 : Nat} {r7 : Nat → Option Nat} (hO1 : S a0 = kO 5 r1) (hr2 : r1 1 = some q2) (hA3 : S q2 = kA 4 m3 r3) (hi4 : v1 = nI j4 ∧ j4 < m3 ∧ m3 < 2 ^ 31) (he5 : r3 j4 = some q5) (hr6 : r1 0 = some q6) (hO7 : S q5 = kO 4 r7) (hM : kv_P y_Txt_indexBy dc B [.ref q5, .ref q6] n S I Qv) (hdp : dc + 1 ≤ d) (K : ∀ v I', Qv v I' → kv_V y_Cb_indexedRow d B Q kc ks n S I' 13 [(0, .ref a0), (1, .int v1)] (v.toList ++ [])) : kv_V y_Cb_indexedRow d B Q kc ks n S I 0 [(0, .ref a0), (1, .int v1)] [] := by
  refine bl_Cb_indexedRow_0 hO1 hr2 hA3 hi4 he5 hr6 hO7 hM hdp (Nat.zero_le _) (Nat.zero_le _) (fun v n' S' I' hv => ?_)
  obtain ⟨e1, e2, hv⟩ := hv
  subst e1
  subst e2
  exact K v I' hv
theorem bp_Cb_keep_0 {d : Nat} {B : kv_B} {Q : kv_Q} {kc ks n : Nat} {S : kv_SM} {I : kv_IM} {dc : Nat} {Qv : Option Value → kv_IM → Prop} {a0 : Nat} {v1 : Int32}  (hM : kv_P y_Cb_isText dc B [.int v1] n S I Qv) (hdp : dc + 1 ≤ d) (K : ∀ v I', Qv v I' → kv_V y_Cb_keep d B Q kc ks n S I' 4 [(0, .ref a0), (1, .int v1)] (v.toList ++ [])) : kv_V y_Cb_keep d B Q kc ks n S I 0 [(0, .ref a0), (1, .int v1)] [] := by
  refine bl_Cb_keep_0  hM hdp (Nat.zero_le _) (Nat.zero_le _) (fun v n' S' I' hv => ?_)
  obtain ⟨e1, e2, hv⟩ := hv
  subst e1
  subst e2
  exact K v I' hv
theorem bp_Cb_keep_7 {d : Nat} {B : kv_B} {Q : kv_Q} {kc ks n : Nat} {S : kv_SM} {I : kv_IM} {dc : Nat} {Qv : Option Value → kv_IM → Prop} {a0 : Nat} {v1 : Int32} {r1 : Nat → Option Nat} {q2 : Nat} (hO1 : S a0 = kO 5 r1) (hr2 : r1 2 = some q2) (hM : kv_P y_Cb_indexedRow dc B [.ref a0, .int v1] n S I Qv) (hdp : dc + 1 ≤ d) (K : ∀ v I', Qv v I' → kv_V y_Cb_keep d B Q kc ks n S I' 16 [(0, .ref a0), (1, .int v1)] (v.toList ++ [.ref q2])) : kv_V y_Cb_keep d B Q kc ks n S I 7 [(0, .ref a0), (1, .int v1)] [] := by
  refine bl_Cb_keep_7 hO1 hr2 hM hdp (Nat.zero_le _) (Nat.zero_le _) (fun v n' S' I' hv => ?_)
  obtain ⟨e1, e2, hv⟩ := hv
  subst e1
  subst e2
  exact K v I' hv
theorem bp_Cb_keep_16 {d : Nat} {B : kv_B} {Q : kv_Q} {kc ks n : Nat} {S : kv_SM} {I : kv_IM} {dc : Nat} {Qv : Option Value → kv_IM → Prop} {a0 : Nat} {v1 : Int32} {t0 : Nat} {t1 : Nat} {r1 : Nat → Option Nat} (hO1 : S t1 = kO 3 r1) (hM : kv_P y_Sto_takeIn dc B [.ref t1, .ref t0] n S I Qv) (hdp : dc + 1 ≤ d) (K : ∀ v I', Qv v I' → kv_V y_Cb_keep d B Q kc ks n S I' 19 [(0, .ref a0), (1, .int v1)] (v.toList ++ [])) : kv_V y_Cb_keep d B Q kc ks n S I 16 [(0, .ref a0), (1, .int v1)] [.ref t0, .ref t1] := by
  refine bl_Cb_keep_16 hO1 hM hdp (Nat.zero_le _) (Nat.zero_le _) (fun v n' S' I' hv => ?_)
  obtain ⟨e1, e2, hv⟩ := hv
  subst e1
  subst e2
  exact K v I' hv
theorem bp_Cb_drop_0 {d : Nat} {B : kv_B} {Q : kv_Q} {kc ks n : Nat} {S : kv_SM} {I : kv_IM} {dc : Nat} {Qv : Option Value → kv_IM → Prop} {a0 : Nat} {v1 : Int32} {r1 : Nat → Option Nat} {q2 : Nat} {r3 : Nat → Option Nat} (hO1 : S a0 = kO 5 r1) (hr2 : r1 2 = some q2) (hO3 : S q2 = kO 3 r3) (hM : kv_P y_Sto_has dc B [.ref q2, .int v1] n S I Qv) (hdp : dc + 1 ≤ d) (K : ∀ v I', Qv v I' → kv_V y_Cb_drop d B Q kc ks n S I' 8 [(0, .ref a0), (1, .int v1)] (v.toList ++ [])) : kv_V y_Cb_drop d B Q kc ks n S I 0 [(0, .ref a0), (1, .int v1)] [] := by
  refine bl_Cb_drop_0 hO1 hr2 hO3 hM hdp (Nat.zero_le _) (Nat.zero_le _) (fun v n' S' I' hv => ?_)
  obtain ⟨e1, e2, hv⟩ := hv
  subst e1
  subst e2
  exact K v I' hv
theorem bp_Cb_drop_11 {d : Nat} {B : kv_B} {Q : kv_Q} {kc ks n : Nat} {S : kv_SM} {I : kv_IM} {dc : Nat} {Qv : Option Value → kv_IM → Prop} {a0 : Nat} {v1 : Int32} {r1 : Nat → Option Nat} {q2 : Nat} {r3 : Nat → Option Nat} (hO1 : S a0 = kO 5 r1) (hr2 : r1 2 = some q2) (hO3 : S q2 = kO 3 r3) (hM : kv_P y_Sto_letGo dc B [.ref q2, .int v1] n S I Qv) (hdp : dc + 1 ≤ d) (K : ∀ v I', Qv v I' → kv_V y_Cb_drop d B Q kc ks n S I' 19 [(0, .ref a0), (1, .int v1)] (v.toList ++ [])) : kv_V y_Cb_drop d B Q kc ks n S I 11 [(0, .ref a0), (1, .int v1)] [] := by
  refine bl_Cb_drop_11 hO1 hr2 hO3 hM hdp (Nat.zero_le _) (Nat.zero_le _) (fun v n' S' I' hv => ?_)
  obtain ⟨e1, e2, hv⟩ := hv
  subst e1
  subst e2
  exact K v I' hv
theorem bp_Cb_restore_0 {d : Nat} {B : kv_B} {Q : kv_Q} {kc ks n : Nat} {S : kv_SM} {I : kv_IM} {dc : Nat} {Qv : Option Value → kv_IM → Prop} {a0 : Nat} {v1 : Int32} {v2 : Int32} {r1 : Nat → Option Nat} {q2 : Nat} {r3 : Nat → Option Nat} (hO1 : S a0 = kO 5 r1) (hr2 : r1 2 = some q2) (hO3 : S q2 = kO 3 r3) (hM : kv_P y_Sto_has dc B [.ref q2, .int v1] n S I Qv) (hdp : dc + 1 ≤ d) (K : ∀ v I', Qv v I' → kv_V y_Cb_restore d B Q kc ks n S I' 8 [(0, .ref a0), (1, .int v1), (2, .int v2)] (v.toList ++ [])) : kv_V y_Cb_restore d B Q kc ks n S I 0 [(0, .ref a0), (1, .int v1), (2, .int v2)] [] := by
  refine bl_Cb_restore_0 hO1 hr2 hO3 hM hdp (Nat.zero_le _) (Nat.zero_le _) (fun v n' S' I' hv => ?_)
  obtain ⟨e1, e2, hv⟩ := hv
  subst e1
  subst e2
  exact K v I' hv
theorem bp_Cb_restore_11 {d : Nat} {B : kv_B} {Q : kv_Q} {kc ks n : Nat} {S : kv_SM} {I : kv_IM} {dc : Nat} {Qv : Option Value → kv_IM → Prop} {a0 : Nat} {v1 : Int32} {v2 : Int32}  (hM : kv_P y_Cb_isText dc B [.int v2] n S I Qv) (hdp : dc + 1 ≤ d) (K : ∀ v I', Qv v I' → kv_V y_Cb_restore d B Q kc ks n S I' 15 [(0, .ref a0), (1, .int v1), (2, .int v2)] (v.toList ++ [])) : kv_V y_Cb_restore d B Q kc ks n S I 11 [(0, .ref a0), (1, .int v1), (2, .int v2)] [] := by
  refine bl_Cb_restore_11  hM hdp (Nat.zero_le _) (Nat.zero_le _) (fun v n' S' I' hv => ?_)
  obtain ⟨e1, e2, hv⟩ := hv
  subst e1
  subst e2
  exact K v I' hv
theorem bp_Cb_restore_20 {d : Nat} {B : kv_B} {Q : kv_Q} {kc ks n : Nat} {S : kv_SM} {I : kv_IM} {dc : Nat} {Qv : Option Value → kv_IM → Prop} {a0 : Nat} {v1 : Int32} {v2 : Int32} {r1 : Nat → Option Nat} {q2 : Nat} {q3 : Nat} {m4 : Nat} {r4 : Nat → Option Nat} {j5 : Nat} {q6 : Nat} {r7 : Nat → Option Nat} (hO1 : S a0 = kO 5 r1) (hr2 : r1 2 = some q2) (hr3 : r1 1 = some q3) (hA4 : S q3 = kA 4 m4 r4) (hi5 : v2 = nI j5 ∧ j5 < m4 ∧ m4 < 2 ^ 31) (he6 : r4 j5 = some q6) (hO7 : S q2 = kO 3 r7) (hM : kv_P y_Sto_giveBack dc B [.ref q2, .int v1, .ref q6] n S I Qv) (hdp : dc + 1 ≤ d) (K : ∀ v I', Qv v I' → kv_V y_Cb_restore d B Q kc ks n S I' 34 [(0, .ref a0), (1, .int v1), (2, .int v2)] (v.toList ++ [])) : kv_V y_Cb_restore d B Q kc ks n S I 20 [(0, .ref a0), (1, .int v1), (2, .int v2)] [] := by
  refine bl_Cb_restore_20 hO1 hr2 hr3 hA4 hi5 he6 hO7 hM hdp (Nat.zero_le _) (Nat.zero_le _) (fun v n' S' I' hv => ?_)
  obtain ⟨e1, e2, hv⟩ := hv
  subst e1
  subst e2
  exact K v I' hv
theorem bp_Cb_told_0 {d : Nat} {B : kv_B} {Q : kv_Q} {kc ks n : Nat} {S : kv_SM} {I : kv_IM} {dc : Nat} {Qv : Option Value → kv_IM → Prop} {a0 : Nat} {v1 : Int32} {v2 : Int32} {r1 : Nat → Option Nat} {q2 : Nat} {r3 : Nat → Option Nat} (hO1 : S a0 = kO 5 r1) (hr2 : r1 2 = some q2) (hO3 : S q2 = kO 3 r3) (hM : kv_P y_Sto_has dc B [.ref q2, .int v1] n S I Qv) (hdp : dc + 1 ≤ d) (K : ∀ v I', Qv v I' → kv_V y_Cb_told d B Q kc ks n S I' 8 [(0, .ref a0), (1, .int v1), (2, .int v2)] (v.toList ++ [])) : kv_V y_Cb_told d B Q kc ks n S I 0 [(0, .ref a0), (1, .int v1), (2, .int v2)] [] := by
  refine bl_Cb_told_0 hO1 hr2 hO3 hM hdp (Nat.zero_le _) (Nat.zero_le _) (fun v n' S' I' hv => ?_)
  obtain ⟨e1, e2, hv⟩ := hv
  subst e1
  subst e2
  exact K v I' hv
theorem bp_Cb_uses_0 {d : Nat} {B : kv_B} {Q : kv_Q} {kc ks n : Nat} {S : kv_SM} {I : kv_IM} {dc : Nat} {Qv : Option Value → kv_IM → Prop} {a0 : Nat} {v1 : Int32} {v2 : Int32} {r1 : Nat → Option Nat} (hO1 : S a0 = kO 5 r1) (hM : kv_P y_Cb_hasBlock dc B [.ref a0, .int v1, .int v2] n S I Qv) (hdp : dc + 1 ≤ d) (K : ∀ v I', Qv v I' → kv_V y_Cb_uses d B Q kc ks n S I' 6 [(0, .ref a0), (1, .int v1), (2, .int v2)] (v.toList ++ [])) : kv_V y_Cb_uses d B Q kc ks n S I 0 [(0, .ref a0), (1, .int v1), (2, .int v2)] [] := by
  refine bl_Cb_uses_0 hO1 hM hdp (Nat.zero_le _) (Nat.zero_le _) (fun v n' S' I' hv => ?_)
  obtain ⟨e1, e2, hv⟩ := hv
  subst e1
  subst e2
  exact K v I' hv
theorem bp_Cb_uses_9 {d : Nat} {B : kv_B} {Q : kv_Q} {kc ks n : Nat} {S : kv_SM} {I : kv_IM} {dc : Nat} {Qv : Option Value → kv_IM → Prop} {a0 : Nat} {v1 : Int32} {v2 : Int32} {r1 : Nat → Option Nat} {q2 : Nat} (hO1 : S a0 = kO 5 r1) (hr2 : r1 2 = some q2) (hM : kv_P y_Cb_indexedRow dc B [.ref a0, .int v1] n S I Qv) (hdp : dc + 1 ≤ d) (K : ∀ v I', Qv v I' → kv_V y_Cb_uses d B Q kc ks n S I' 18 [(0, .ref a0), (1, .int v1), (2, .int v2)] (v.toList ++ [.ref q2])) : kv_V y_Cb_uses d B Q kc ks n S I 9 [(0, .ref a0), (1, .int v1), (2, .int v2)] [] := by
  refine bl_Cb_uses_9 hO1 hr2 hM hdp (Nat.zero_le _) (Nat.zero_le _) (fun v n' S' I' hv => ?_)
  obtain ⟨e1, e2, hv⟩ := hv
  subst e1
  subst e2
  exact K v I' hv
theorem bp_Cb_uses_18 {d : Nat} {B : kv_B} {Q : kv_Q} {kc ks n : Nat} {S : kv_SM} {I : kv_IM} {dc : Nat} {Qv : Option Value → kv_IM → Prop} {a0 : Nat} {v1 : Int32} {v2 : Int32} {t0 : Nat} {t1 : Nat} {r1 : Nat → Option Nat} (hO1 : S t1 = kO 3 r1) (hM : kv_P y_Sto_placesOf dc B [.ref t1, .ref t0, .int v2] n S I Qv) (hdp : dc + 1 ≤ d) (K : ∀ v I', Qv v I' → kv_V y_Cb_uses d B Q kc ks n S I' 22 [(0, .ref a0), (1, .int v1), (2, .int v2)] (v.toList ++ [])) : kv_V y_Cb_uses d B Q kc ks n S I 18 [(0, .ref a0), (1, .int v1), (2, .int v2)] [.ref t0, .ref t1] := by
  refine bl_Cb_uses_18 hO1 hM hdp (Nat.zero_le _) (Nat.zero_le _) (fun v n' S' I' hv => ?_)
  obtain ⟨e1, e2, hv⟩ := hv
  subst e1
  subst e2
  exact K v I' hv
theorem bp_Cb_kept_40 {d : Nat} {B : kv_B} {Q : kv_Q} {kc ks n : Nat} {S : kv_SM} {I : kv_IM} {dc : Nat} {Qv : Option Value → kv_IM → Prop} {a0 : Nat} {v1 : Int32} {r1 : Nat → Option Nat} {q2 : Nat} {r3 : Nat → Option Nat} (hO1 : S a0 = kO 5 r1) (hr2 : r1 2 = some q2) (hO3 : S q2 = kO 3 r3) (hM : kv_P y_Sto_snapshotsThere dc B [.ref q2] n S I Qv) (hdp : dc + 1 ≤ d) (K : ∀ v I', Qv v I' → kv_V y_Cb_kept d B Q kc ks n S I' 47 [(0, .ref a0), (1, .int v1)] (v.toList ++ [])) : kv_V y_Cb_kept d B Q kc ks n S I 40 [(0, .ref a0), (1, .int v1)] [] := by
  refine bl_Cb_kept_40 hO1 hr2 hO3 hM hdp (Nat.zero_le _) (Nat.zero_le _) (fun v n' S' I' hv => ?_)
  obtain ⟨e1, e2, hv⟩ := hv
  subst e1
  subst e2
  exact K v I' hv
theorem bp_Cb_kept_59 {d : Nat} {B : kv_B} {Q : kv_Q} {kc ks n : Nat} {S : kv_SM} {I : kv_IM} {dc : Nat} {Qv : Option Value → kv_IM → Prop} {a0 : Nat} {v1 : Int32} {r1 : Nat → Option Nat} {q2 : Nat} {r3 : Nat → Option Nat} {q4 : Nat} {r5 : Nat → Option Nat} (hO1 : S a0 = kO 5 r1) (hr2 : r1 2 = some q2) (hO3 : S q2 = kO 3 r3) (hr4 : r3 0 = some q4) (hO5 : S q4 = kO 0 r5) (hM : kv_P y_Row_end dc B [.ref q4] n S I Qv) (hdp : dc + 1 ≤ d) (K : ∀ v I', Qv v I' → kv_V y_Cb_kept d B Q kc ks n S I' 69 [(0, .ref a0), (1, .int v1)] (v.toList ++ [])) : kv_V y_Cb_kept d B Q kc ks n S I 59 [(0, .ref a0), (1, .int v1)] [] := by
  refine bl_Cb_kept_59 hO1 hr2 hO3 hr4 hO5 hM hdp (Nat.zero_le _) (Nat.zero_le _) (fun v n' S' I' hv => ?_)
  obtain ⟨e1, e2, hv⟩ := hv
  subst e1
  subst e2
  exact K v I' hv
theorem bp_Cb_kept_70 {d : Nat} {B : kv_B} {Q : kv_Q} {kc ks n : Nat} {S : kv_SM} {I : kv_IM} {dc : Nat} {Qv : Option Value → kv_IM → Prop} {a0 : Nat} {v1 : Int32} {r1 : Nat → Option Nat} {q2 : Nat} {r3 : Nat → Option Nat} (hO1 : S a0 = kO 5 r1) (hr2 : r1 2 = some q2) (hO3 : S q2 = kO 3 r3) (hM : kv_P y_Sto_allPlaces dc B [.ref q2] n S I Qv) (hdp : dc + 1 ≤ d) (K : ∀ v I', Qv v I' → kv_V y_Cb_kept d B Q kc ks n S I' 77 [(0, .ref a0), (1, .int v1)] (v.toList ++ [])) : kv_V y_Cb_kept d B Q kc ks n S I 70 [(0, .ref a0), (1, .int v1)] [] := by
  refine bl_Cb_kept_70 hO1 hr2 hO3 hM hdp (Nat.zero_le _) (Nat.zero_le _) (fun v n' S' I' hv => ?_)
  obtain ⟨e1, e2, hv⟩ := hv
  subst e1
  subst e2
  exact K v I' hv
theorem bp_Cb_kept_78 {d : Nat} {B : kv_B} {Q : kv_Q} {kc ks n : Nat} {S : kv_SM} {I : kv_IM} {dc : Nat} {Qv : Option Value → kv_IM → Prop} {a0 : Nat} {v1 : Int32} {r1 : Nat → Option Nat} {q2 : Nat} {r3 : Nat → Option Nat} {q4 : Nat} {r5 : Nat → Option Nat} (hO1 : S a0 = kO 5 r1) (hr2 : r1 2 = some q2) (hO3 : S q2 = kO 3 r3) (hr4 : r3 0 = some q4) (hO5 : S q4 = kO 0 r5) (hM : kv_P y_Row_pairsOfOneKey dc B [.ref q4] n S I Qv) (hdp : dc + 1 ≤ d) (K : ∀ v I', Qv v I' → kv_V y_Cb_kept d B Q kc ks n S I' 88 [(0, .ref a0), (1, .int v1)] (v.toList ++ [])) : kv_V y_Cb_kept d B Q kc ks n S I 78 [(0, .ref a0), (1, .int v1)] [] := by
  refine bl_Cb_kept_78 hO1 hr2 hO3 hr4 hO5 hM hdp (Nat.zero_le _) (Nat.zero_le _) (fun v n' S' I' hv => ?_)
  obtain ⟨e1, e2, hv⟩ := hv
  subst e1
  subst e2
  exact K v I' hv
theorem bp_Cb_kept_89 {d : Nat} {B : kv_B} {Q : kv_Q} {kc ks n : Nat} {S : kv_SM} {I : kv_IM} {dc : Nat} {Qv : Option Value → kv_IM → Prop} {a0 : Nat} {v1 : Int32} {r1 : Nat → Option Nat} {q2 : Nat} {r3 : Nat → Option Nat} {q4 : Nat} {r5 : Nat → Option Nat} (hO1 : S a0 = kO 5 r1) (hr2 : r1 2 = some q2) (hO3 : S q2 = kO 3 r3) (hr4 : r3 0 = some q4) (hO5 : S q4 = kO 0 r5) (hM : kv_P y_Row_mostOfOneKey dc B [.ref q4] n S I Qv) (hdp : dc + 1 ≤ d) (K : ∀ v I', Qv v I' → kv_V y_Cb_kept d B Q kc ks n S I' 99 [(0, .ref a0), (1, .int v1)] (v.toList ++ [])) : kv_V y_Cb_kept d B Q kc ks n S I 89 [(0, .ref a0), (1, .int v1)] [] := by
  refine bl_Cb_kept_89 hO1 hr2 hO3 hr4 hO5 hM hdp (Nat.zero_le _) (Nat.zero_le _) (fun v n' S' I' hv => ?_)
  obtain ⟨e1, e2, hv⟩ := hv
  subst e1
  subst e2
  exact K v I' hv
theorem bp_Md_seed_0 {d : Nat} {B : kv_B} {Q : kv_Q} {kc ks n : Nat} {S : kv_SM} {I : kv_IM} {dc : Nat} {Qv : Option Value → kv_IM → Prop} {a0 : Nat} {v1 : Int32} {r1 : Nat → Option Nat} (hO1 : S a0 = kO 6 r1) (hM : kv_P y_Md_layTable dc B [.ref a0, .int v1] n S (kv_up I a0 0 0) Qv) (hdp : dc + 1 ≤ d) (K : ∀ v I', Qv v I' → kv_V y_Md_seed d B Q kc ks n S I' 10 [(0, .ref a0), (1, .int v1)] (v.toList ++ [])) : kv_V y_Md_seed d B Q kc ks n S I 0 [(0, .ref a0), (1, .int v1)] [] := by
  refine bl_Md_seed_0 hO1 hM hdp (Nat.zero_le _) (Nat.zero_le _) (fun v n' S' I' hv => ?_)
  obtain ⟨e1, e2, hv⟩ := hv
  subst e1
  subst e2
  exact K v I' hv
theorem bp_Md_rule_0 {d : Nat} {B : kv_B} {Q : kv_Q} {kc ks n : Nat} {S : kv_SM} {I : kv_IM} {dc : Nat} {Qv : Option Value → kv_IM → Prop} {a0 : Nat} {v1 : Int32} {v2 : Int32} {v3 : Int32} {v4 : Int32} {v5 : Int32} {v6 : Int32} {r1 : Nat → Option Nat} (hO1 : S a0 = kO 6 r1) (hM : kv_P y_Md_in dc B [.int v1, .int 0, .int 3] n S (kv_up I a0 0 0) Qv) (hdp : dc + 1 ≤ d) (K : ∀ v I', Qv v I' → kv_V y_Md_rule d B Q kc ks n S I' 11 [(0, .ref a0), (1, .int v1), (2, .int v2), (3, .int v3), (4, .int v4), (5, .int v5), (6, .int v6)] (v.toList ++ [])) : kv_V y_Md_rule d B Q kc ks n S I 0 [(0, .ref a0), (1, .int v1), (2, .int v2), (3, .int v3), (4, .int v4), (5, .int v5), (6, .int v6)] [] := by
  refine bl_Md_rule_0 hO1 hM hdp (Nat.zero_le _) (Nat.zero_le _) (fun v n' S' I' hv => ?_)
  obtain ⟨e1, e2, hv⟩ := hv
  subst e1
  subst e2
  exact K v I' hv
theorem bp_Md_rule_14 {d : Nat} {B : kv_B} {Q : kv_Q} {kc ks n : Nat} {S : kv_SM} {I : kv_IM} {dc : Nat} {Qv : Option Value → kv_IM → Prop} {a0 : Nat} {v1 : Int32} {v2 : Int32} {v3 : Int32} {v4 : Int32} {v5 : Int32} {v6 : Int32}  (hM : kv_P y_Md_in dc B [.int v2, .int 1, .int 200] n S I Qv) (hdp : dc + 1 ≤ d) (K : ∀ v I', Qv v I' → kv_V y_Md_rule d B Q kc ks n S I' 22 [(0, .ref a0), (1, .int v1), (2, .int v2), (3, .int v3), (4, .int v4), (5, .int v5), (6, .int v6)] (v.toList ++ [])) : kv_V y_Md_rule d B Q kc ks n S I 14 [(0, .ref a0), (1, .int v1), (2, .int v2), (3, .int v3), (4, .int v4), (5, .int v5), (6, .int v6)] [] := by
  refine bl_Md_rule_14  hM hdp (Nat.zero_le _) (Nat.zero_le _) (fun v n' S' I' hv => ?_)
  obtain ⟨e1, e2, hv⟩ := hv
  subst e1
  subst e2
  exact K v I' hv
theorem bp_Md_rule_25 {d : Nat} {B : kv_B} {Q : kv_Q} {kc ks n : Nat} {S : kv_SM} {I : kv_IM} {dc : Nat} {Qv : Option Value → kv_IM → Prop} {a0 : Nat} {v1 : Int32} {v2 : Int32} {v3 : Int32} {v4 : Int32} {v5 : Int32} {v6 : Int32}  (hM : kv_P y_Md_in dc B [.int v3, .int v2, .int 600] n S I Qv) (hdp : dc + 1 ≤ d) (K : ∀ v I', Qv v I' → kv_V y_Md_rule d B Q kc ks n S I' 33 [(0, .ref a0), (1, .int v1), (2, .int v2), (3, .int v3), (4, .int v4), (5, .int v5), (6, .int v6)] (v.toList ++ [])) : kv_V y_Md_rule d B Q kc ks n S I 25 [(0, .ref a0), (1, .int v1), (2, .int v2), (3, .int v3), (4, .int v4), (5, .int v5), (6, .int v6)] [] := by
  refine bl_Md_rule_25  hM hdp (Nat.zero_le _) (Nat.zero_le _) (fun v n' S' I' hv => ?_)
  obtain ⟨e1, e2, hv⟩ := hv
  subst e1
  subst e2
  exact K v I' hv
theorem bp_Md_rule_36 {d : Nat} {B : kv_B} {Q : kv_Q} {kc ks n : Nat} {S : kv_SM} {I : kv_IM} {dc : Nat} {Qv : Option Value → kv_IM → Prop} {a0 : Nat} {v1 : Int32} {v2 : Int32} {v3 : Int32} {v4 : Int32} {v5 : Int32} {v6 : Int32}  (hM : kv_P y_Md_in dc B [.int v4, .int 1, .int 9] n S I Qv) (hdp : dc + 1 ≤ d) (K : ∀ v I', Qv v I' → kv_V y_Md_rule d B Q kc ks n S I' 44 [(0, .ref a0), (1, .int v1), (2, .int v2), (3, .int v3), (4, .int v4), (5, .int v5), (6, .int v6)] (v.toList ++ [])) : kv_V y_Md_rule d B Q kc ks n S I 36 [(0, .ref a0), (1, .int v1), (2, .int v2), (3, .int v3), (4, .int v4), (5, .int v5), (6, .int v6)] [] := by
  refine bl_Md_rule_36  hM hdp (Nat.zero_le _) (Nat.zero_le _) (fun v n' S' I' hv => ?_)
  obtain ⟨e1, e2, hv⟩ := hv
  subst e1
  subst e2
  exact K v I' hv
theorem bp_Md_rule_47 {d : Nat} {B : kv_B} {Q : kv_Q} {kc ks n : Nat} {S : kv_SM} {I : kv_IM} {dc : Nat} {Qv : Option Value → kv_IM → Prop} {a0 : Nat} {v1 : Int32} {v2 : Int32} {v3 : Int32} {v4 : Int32} {v5 : Int32} {v6 : Int32}  (hM : kv_P y_Md_in dc B [.int v5, .int 0, .int v4] n S I Qv) (hdp : dc + 1 ≤ d) (K : ∀ v I', Qv v I' → kv_V y_Md_rule d B Q kc ks n S I' 55 [(0, .ref a0), (1, .int v1), (2, .int v2), (3, .int v3), (4, .int v4), (5, .int v5), (6, .int v6)] (v.toList ++ [])) : kv_V y_Md_rule d B Q kc ks n S I 47 [(0, .ref a0), (1, .int v1), (2, .int v2), (3, .int v3), (4, .int v4), (5, .int v5), (6, .int v6)] [] := by
  refine bl_Md_rule_47  hM hdp (Nat.zero_le _) (Nat.zero_le _) (fun v n' S' I' hv => ?_)
  obtain ⟨e1, e2, hv⟩ := hv
  subst e1
  subst e2
  exact K v I' hv
theorem bp_Md_rule_58 {d : Nat} {B : kv_B} {Q : kv_Q} {kc ks n : Nat} {S : kv_SM} {I : kv_IM} {dc : Nat} {Qv : Option Value → kv_IM → Prop} {a0 : Nat} {v1 : Int32} {v2 : Int32} {v3 : Int32} {v4 : Int32} {v5 : Int32} {v6 : Int32}  (hM : kv_P y_Md_in dc B [.int v6, .int 1, .int 16] n S I Qv) (hdp : dc + 1 ≤ d) (K : ∀ v I', Qv v I' → kv_V y_Md_rule d B Q kc ks n S I' 66 [(0, .ref a0), (1, .int v1), (2, .int v2), (3, .int v3), (4, .int v4), (5, .int v5), (6, .int v6)] (v.toList ++ [])) : kv_V y_Md_rule d B Q kc ks n S I 58 [(0, .ref a0), (1, .int v1), (2, .int v2), (3, .int v3), (4, .int v4), (5, .int v5), (6, .int v6)] [] := by
  refine bl_Md_rule_58  hM hdp (Nat.zero_le _) (Nat.zero_le _) (fun v n' S' I' hv => ?_)
  obtain ⟨e1, e2, hv⟩ := hv
  subst e1
  subst e2
  exact K v I' hv
theorem bp_Md_add_0 {d : Nat} {B : kv_B} {Q : kv_Q} {kc ks n : Nat} {S : kv_SM} {I : kv_IM} {dc : Nat} {Qv : Option Value → kv_IM → Prop} {a0 : Nat} {v1 : Int32} {v2 : Int32} {r1 : Nat → Option Nat} (hO1 : S a0 = kO 6 r1) (hM : kv_P y_Md_isText dc B [.int v1] n S (kv_up I a0 0 0) Qv) (hdp : dc + 1 ≤ d) (K : ∀ v I', Qv v I' → kv_V y_Md_add d B Q kc ks n S I' 11 [(0, .ref a0), (1, .int v1), (2, .int v2)] (v.toList ++ [.int v1, .ref a0])) : kv_V y_Md_add d B Q kc ks n S I 0 [(0, .ref a0), (1, .int v1), (2, .int v2)] [] := by
  refine bl_Md_add_0 hO1 hM hdp (Nat.zero_le _) (Nat.zero_le _) (fun v n' S' I' hv => ?_)
  obtain ⟨e1, e2, hv⟩ := hv
  subst e1
  subst e2
  exact K v I' hv
theorem bp_Md_add_24 {d : Nat} {B : kv_B} {Q : kv_Q} {kc ks n : Nat} {S : kv_SM} {I : kv_IM} {dc : Nat} {Qv : Option Value → kv_IM → Prop} {a0 : Nat} {v1 : Int32} {v2 : Int32} {t0 : Int32} {t1 : Int32} {t2 : Nat} {r1 : Nat → Option Nat} (hO1 : S t2 = kO 6 r1) (hM : kv_P y_Md_insertAt dc B [.ref t2, .int t1, .int t0, .int v2] n S I Qv) (hdp : dc + 1 ≤ d) (K : ∀ v I', Qv v I' → kv_V y_Md_add d B Q kc ks n S I' 28 [(0, .ref a0), (1, .int v1), (2, .int v2)] (v.toList ++ [])) : kv_V y_Md_add d B Q kc ks n S I 24 [(0, .ref a0), (1, .int v1), (2, .int v2)] [.int t0, .int t1, .ref t2] := by
  refine bl_Md_add_24 hO1 hM hdp (Nat.zero_le _) (Nat.zero_le _) (fun v n' S' I' hv => ?_)
  obtain ⟨e1, e2, hv⟩ := hv
  subst e1
  subst e2
  exact K v I' hv
theorem bp_Md_isText_0 {d : Nat} {B : kv_B} {Q : kv_Q} {kc ks n : Nat} {S : kv_SM} {I : kv_IM} {dc : Nat} {Qv : Option Value → kv_IM → Prop} {v0 : Int32}  (hM : kv_P y_Md_in dc B [.int v0, .int 0, .int 3] n S I Qv) (hdp : dc + 1 ≤ d) (K : ∀ v I', Qv v I' → kv_V y_Md_isText d B Q kc ks n S I' 6 [(0, .int v0)] (v.toList ++ [])) : kv_V y_Md_isText d B Q kc ks n S I 0 [(0, .int v0)] [] := by
  refine bl_Md_isText_0  hM hdp (Nat.zero_le _) (Nat.zero_le _) (fun v n' S' I' hv => ?_)
  obtain ⟨e1, e2, hv⟩ := hv
  subst e1
  subst e2
  exact K v I' hv
theorem bp_Md_insertAt_0 {d : Nat} {B : kv_B} {Q : kv_Q} {kc ks n : Nat} {S : kv_SM} {I : kv_IM} {dc : Nat} {Qv : Option Value → kv_IM → Prop} {a0 : Nat} {v1 : Int32} {v2 : Int32} {v3 : Int32}  (hM : kv_P y_Md_isText dc B [.int v1] n S I Qv) (hdp : dc + 1 ≤ d) (K : ∀ v I', Qv v I' → kv_V y_Md_insertAt d B Q kc ks n S I' 4 [(0, .ref a0), (1, .int v1), (2, .int v2), (3, .int v3)] (v.toList ++ [])) : kv_V y_Md_insertAt d B Q kc ks n S I 0 [(0, .ref a0), (1, .int v1), (2, .int v2), (3, .int v3)] [] := by
  refine bl_Md_insertAt_0  hM hdp (Nat.zero_le _) (Nat.zero_le _) (fun v n' S' I' hv => ?_)
  obtain ⟨e1, e2, hv⟩ := hv
  subst e1
  subst e2
  exact K v I' hv
theorem bp_Md_insertAt_7 {d : Nat} {B : kv_B} {Q : kv_Q} {kc ks n : Nat} {S : kv_SM} {I : kv_IM} {dc : Nat} {Qv : Option Value → kv_IM → Prop} {a0 : Nat} {v1 : Int32} {v2 : Int32} {v3 : Int32} {r1 : Nat → Option Nat} {q2 : Nat} {m3 : Nat} {j4 : Nat} (hO1 : S a0 = kO 6 r1) (hr2 : r1 2 = some q2) (hA3 : S q2 = kI m3) (hi4 : v1 = nI j4 ∧ j4 < m3 ∧ m3 < 2 ^ 31) (hM : kv_P y_Md_in dc B [.int v2, .int 0, .int (I q2 j4)] n S I Qv) (hdp : dc + 1 ≤ d) (K : ∀ v I', Qv v I' → kv_V y_Md_insertAt d B Q kc ks n S I' 18 [(0, .ref a0), (1, .int v1), (2, .int v2), (3, .int v3)] (v.toList ++ [])) : kv_V y_Md_insertAt d B Q kc ks n S I 7 [(0, .ref a0), (1, .int v1), (2, .int v2), (3, .int v3)] [] := by
  refine bl_Md_insertAt_7 hO1 hr2 hA3 hi4 hM hdp (Nat.zero_le _) (Nat.zero_le _) (fun v n' S' I' hv => ?_)
  obtain ⟨e1, e2, hv⟩ := hv
  subst e1
  subst e2
  exact K v I' hv
theorem bp_Md_insertAt_21 {d : Nat} {B : kv_B} {Q : kv_Q} {kc ks n : Nat} {S : kv_SM} {I : kv_IM} {dc : Nat} {Qv : Option Value → kv_IM → Prop} {a0 : Nat} {v1 : Int32} {v2 : Int32} {v3 : Int32}  (hM : kv_P y_Md_in dc B [.int v3, .int 0, .int 255] n S I Qv) (hdp : dc + 1 ≤ d) (K : ∀ v I', Qv v I' → kv_V y_Md_insertAt d B Q kc ks n S I' 29 [(0, .ref a0), (1, .int v1), (2, .int v2), (3, .int v3)] (v.toList ++ [])) : kv_V y_Md_insertAt d B Q kc ks n S I 21 [(0, .ref a0), (1, .int v1), (2, .int v2), (3, .int v3)] [] := by
  refine bl_Md_insertAt_21  hM hdp (Nat.zero_le _) (Nat.zero_le _) (fun v n' S' I' hv => ?_)
  obtain ⟨e1, e2, hv⟩ := hv
  subst e1
  subst e2
  exact K v I' hv
theorem bp_Md_fill_0 {d : Nat} {B : kv_B} {Q : kv_Q} {kc ks n : Nat} {S : kv_SM} {I : kv_IM} {dc : Nat} {Qv : Option Value → kv_IM → Prop} {a0 : Nat} {v1 : Int32} {v2 : Int32} {v3 : Int32} {v4 : Int32} {r1 : Nat → Option Nat} (hO1 : S a0 = kO 6 r1) (hM : kv_P y_Md_isText dc B [.int v1] n S (kv_up I a0 0 0) Qv) (hdp : dc + 1 ≤ d) (K : ∀ v I', Qv v I' → kv_V y_Md_fill d B Q kc ks n S I' 9 [(0, .ref a0), (1, .int v1), (2, .int v2), (3, .int v3), (4, .int v4)] (v.toList ++ [])) : kv_V y_Md_fill d B Q kc ks n S I 0 [(0, .ref a0), (1, .int v1), (2, .int v2), (3, .int v3), (4, .int v4)] [] := by
  refine bl_Md_fill_0 hO1 hM hdp (Nat.zero_le _) (Nat.zero_le _) (fun v n' S' I' hv => ?_)
  obtain ⟨e1, e2, hv⟩ := hv
  subst e1
  subst e2
  exact K v I' hv
theorem bp_Md_fill_12 {d : Nat} {B : kv_B} {Q : kv_Q} {kc ks n : Nat} {S : kv_SM} {I : kv_IM} {dc : Nat} {Qv : Option Value → kv_IM → Prop} {a0 : Nat} {v1 : Int32} {v2 : Int32} {v3 : Int32} {v4 : Int32}  (hM : kv_P y_Md_in dc B [.int v2, .int 1, .int 400] n S I Qv) (hdp : dc + 1 ≤ d) (K : ∀ v I', Qv v I' → kv_V y_Md_fill d B Q kc ks n S I' 20 [(0, .ref a0), (1, .int v1), (2, .int v2), (3, .int v3), (4, .int v4)] (v.toList ++ [])) : kv_V y_Md_fill d B Q kc ks n S I 12 [(0, .ref a0), (1, .int v1), (2, .int v2), (3, .int v3), (4, .int v4)] [] := by
  refine bl_Md_fill_12  hM hdp (Nat.zero_le _) (Nat.zero_le _) (fun v n' S' I' hv => ?_)
  obtain ⟨e1, e2, hv⟩ := hv
  subst e1
  subst e2
  exact K v I' hv
theorem bp_Md_fill_23 {d : Nat} {B : kv_B} {Q : kv_Q} {kc ks n : Nat} {S : kv_SM} {I : kv_IM} {dc : Nat} {Qv : Option Value → kv_IM → Prop} {a0 : Nat} {v1 : Int32} {v2 : Int32} {v3 : Int32} {v4 : Int32}  (hM : kv_P y_Md_in dc B [.int v4, .int 1, .int 256] n S I Qv) (hdp : dc + 1 ≤ d) (K : ∀ v I', Qv v I' → kv_V y_Md_fill d B Q kc ks n S I' 32 [(0, .ref a0), (1, .int v1), (2, .int v2), (3, .int v3), (4, .int v4)] (v.toList ++ [])) : kv_V y_Md_fill d B Q kc ks n S I 23 [(0, .ref a0), (1, .int v1), (2, .int v2), (3, .int v3), (4, .int v4)] [] := by
  refine bl_Md_fill_23  hM hdp (Nat.zero_le _) (Nat.zero_le _) (fun v n' S' I' hv => ?_)
  obtain ⟨e1, e2, hv⟩ := hv
  subst e1
  subst e2
  exact K v I' hv
theorem bp_Md_insert_0 {d : Nat} {B : kv_B} {Q : kv_Q} {kc ks n : Nat} {S : kv_SM} {I : kv_IM} {dc : Nat} {Qv : Option Value → kv_IM → Prop} {a0 : Nat} {v1 : Int32} {v2 : Int32} {v3 : Int32} {r1 : Nat → Option Nat} (hO1 : S a0 = kO 6 r1) (hM : kv_P y_Md_insertAt dc B [.ref a0, .int v1, .int v2, .int v3] n S (kv_up I a0 0 0) Qv) (hdp : dc + 1 ≤ d) (K : ∀ v I', Qv v I' → kv_V y_Md_insert d B Q kc ks n S I' 12 [(0, .ref a0), (1, .int v1), (2, .int v2), (3, .int v3)] (v.toList ++ [])) : kv_V y_Md_insert d B Q kc ks n S I 0 [(0, .ref a0), (1, .int v1), (2, .int v2), (3, .int v3)] [] := by
  refine bl_Md_insert_0 hO1 hM hdp (Nat.zero_le _) (Nat.zero_le _) (fun v n' S' I' hv => ?_)
  obtain ⟨e1, e2, hv⟩ := hv
  subst e1
  subst e2
  exact K v I' hv
theorem bp_Md_remove_0 {d : Nat} {B : kv_B} {Q : kv_Q} {kc ks n : Nat} {S : kv_SM} {I : kv_IM} {dc : Nat} {Qv : Option Value → kv_IM → Prop} {a0 : Nat} {v1 : Int32} {v2 : Int32} {v3 : Int32} {r1 : Nat → Option Nat} (hO1 : S a0 = kO 6 r1) (hM : kv_P y_Md_isText dc B [.int v1] n S (kv_up I a0 0 0) Qv) (hdp : dc + 1 ≤ d) (K : ∀ v I', Qv v I' → kv_V y_Md_remove d B Q kc ks n S I' 9 [(0, .ref a0), (1, .int v1), (2, .int v2), (3, .int v3)] (v.toList ++ [])) : kv_V y_Md_remove d B Q kc ks n S I 0 [(0, .ref a0), (1, .int v1), (2, .int v2), (3, .int v3)] [] := by
  refine bl_Md_remove_0 hO1 hM hdp (Nat.zero_le _) (Nat.zero_le _) (fun v n' S' I' hv => ?_)
  obtain ⟨e1, e2, hv⟩ := hv
  subst e1
  subst e2
  exact K v I' hv
theorem bp_Md_remove_12 {d : Nat} {B : kv_B} {Q : kv_Q} {kc ks n : Nat} {S : kv_SM} {I : kv_IM} {dc : Nat} {Qv : Option Value → kv_IM → Prop} {a0 : Nat} {v1 : Int32} {v2 : Int32} {v3 : Int32} {r1 : Nat → Option Nat} {q2 : Nat} {m3 : Nat} {j4 : Nat} (hO1 : S a0 = kO 6 r1) (hr2 : r1 2 = some q2) (hA3 : S q2 = kI m3) (hi4 : v1 = nI j4 ∧ j4 < m3 ∧ m3 < 2 ^ 31) (hM : kv_P y_Md_in dc B [.int v2, .int 0, .int (I q2 j4)] n S I Qv) (hdp : dc + 1 ≤ d) (K : ∀ v I', Qv v I' → kv_V y_Md_remove d B Q kc ks n S I' 23 [(0, .ref a0), (1, .int v1), (2, .int v2), (3, .int v3)] (v.toList ++ [])) : kv_V y_Md_remove d B Q kc ks n S I 12 [(0, .ref a0), (1, .int v1), (2, .int v2), (3, .int v3)] [] := by
  refine bl_Md_remove_12 hO1 hr2 hA3 hi4 hM hdp (Nat.zero_le _) (Nat.zero_le _) (fun v n' S' I' hv => ?_)
  obtain ⟨e1, e2, hv⟩ := hv
  subst e1
  subst e2
  exact K v I' hv
theorem bp_Md_remove_26 {d : Nat} {B : kv_B} {Q : kv_Q} {kc ks n : Nat} {S : kv_SM} {I : kv_IM} {dc : Nat} {Qv : Option Value → kv_IM → Prop} {a0 : Nat} {v1 : Int32} {v2 : Int32} {v3 : Int32} {r1 : Nat → Option Nat} {q2 : Nat} {m3 : Nat} {j4 : Nat} (hO1 : S a0 = kO 6 r1) (hr2 : r1 2 = some q2) (hA3 : S q2 = kI m3) (hi4 : v1 = nI j4 ∧ j4 < m3 ∧ m3 < 2 ^ 31) (hM : kv_P y_Md_in dc B [.int v3, .int 0, .int ((I q2 j4) - v2)] n S I Qv) (hdp : dc + 1 ≤ d) (K : ∀ v I', Qv v I' → kv_V y_Md_remove d B Q kc ks n S I' 39 [(0, .ref a0), (1, .int v1), (2, .int v2), (3, .int v3)] (v.toList ++ [])) : kv_V y_Md_remove d B Q kc ks n S I 26 [(0, .ref a0), (1, .int v1), (2, .int v2), (3, .int v3)] [] := by
  refine bl_Md_remove_26 hO1 hr2 hA3 hi4 hM hdp (Nat.zero_le _) (Nat.zero_le _) (fun v n' S' I' hv => ?_)
  obtain ⟨e1, e2, hv⟩ := hv
  subst e1
  subst e2
  exact K v I' hv
theorem bp_Md_copy_0 {d : Nat} {B : kv_B} {Q : kv_Q} {kc ks n : Nat} {S : kv_SM} {I : kv_IM} {dc : Nat} {Qv : Option Value → kv_IM → Prop} {a0 : Nat} {v1 : Int32} {v2 : Int32} {r1 : Nat → Option Nat} (hO1 : S a0 = kO 6 r1) (hM : kv_P y_Md_isText dc B [.int v1] n S (kv_up I a0 0 0) Qv) (hdp : dc + 1 ≤ d) (K : ∀ v I', Qv v I' → kv_V y_Md_copy d B Q kc ks n S I' 9 [(0, .ref a0), (1, .int v1), (2, .int v2)] (v.toList ++ [])) : kv_V y_Md_copy d B Q kc ks n S I 0 [(0, .ref a0), (1, .int v1), (2, .int v2)] [] := by
  refine bl_Md_copy_0 hO1 hM hdp (Nat.zero_le _) (Nat.zero_le _) (fun v n' S' I' hv => ?_)
  obtain ⟨e1, e2, hv⟩ := hv
  subst e1
  subst e2
  exact K v I' hv
theorem bp_Md_copy_12 {d : Nat} {B : kv_B} {Q : kv_Q} {kc ks n : Nat} {S : kv_SM} {I : kv_IM} {dc : Nat} {Qv : Option Value → kv_IM → Prop} {a0 : Nat} {v1 : Int32} {v2 : Int32}  (hM : kv_P y_Md_isText dc B [.int v2] n S I Qv) (hdp : dc + 1 ≤ d) (K : ∀ v I', Qv v I' → kv_V y_Md_copy d B Q kc ks n S I' 16 [(0, .ref a0), (1, .int v1), (2, .int v2)] (v.toList ++ [])) : kv_V y_Md_copy d B Q kc ks n S I 12 [(0, .ref a0), (1, .int v1), (2, .int v2)] [] := by
  refine bl_Md_copy_12  hM hdp (Nat.zero_le _) (Nat.zero_le _) (fun v n' S' I' hv => ?_)
  obtain ⟨e1, e2, hv⟩ := hv
  subst e1
  subst e2
  exact K v I' hv
theorem bp_Md_size_0 {d : Nat} {B : kv_B} {Q : kv_Q} {kc ks n : Nat} {S : kv_SM} {I : kv_IM} {dc : Nat} {Qv : Option Value → kv_IM → Prop} {a0 : Nat} {v1 : Int32} {r1 : Nat → Option Nat} (hO1 : S a0 = kO 6 r1) (hM : kv_P y_Md_isText dc B [.int v1] n S (kv_up I a0 0 0) Qv) (hdp : dc + 1 ≤ d) (K : ∀ v I', Qv v I' → kv_V y_Md_size d B Q kc ks n S I' 9 [(0, .ref a0), (1, .int v1)] (v.toList ++ [])) : kv_V y_Md_size d B Q kc ks n S I 0 [(0, .ref a0), (1, .int v1)] [] := by
  refine bl_Md_size_0 hO1 hM hdp (Nat.zero_le _) (Nat.zero_le _) (fun v n' S' I' hv => ?_)
  obtain ⟨e1, e2, hv⟩ := hv
  subst e1
  subst e2
  exact K v I' hv
theorem bp_Md_byteAt_0 {d : Nat} {B : kv_B} {Q : kv_Q} {kc ks n : Nat} {S : kv_SM} {I : kv_IM} {dc : Nat} {Qv : Option Value → kv_IM → Prop} {a0 : Nat} {v1 : Int32} {v2 : Int32} {r1 : Nat → Option Nat} (hO1 : S a0 = kO 6 r1) (hM : kv_P y_Md_isText dc B [.int v1] n S (kv_up I a0 0 0) Qv) (hdp : dc + 1 ≤ d) (K : ∀ v I', Qv v I' → kv_V y_Md_byteAt d B Q kc ks n S I' 9 [(0, .ref a0), (1, .int v1), (2, .int v2)] (v.toList ++ [])) : kv_V y_Md_byteAt d B Q kc ks n S I 0 [(0, .ref a0), (1, .int v1), (2, .int v2)] [] := by
  refine bl_Md_byteAt_0 hO1 hM hdp (Nat.zero_le _) (Nat.zero_le _) (fun v n' S' I' hv => ?_)
  obtain ⟨e1, e2, hv⟩ := hv
  subst e1
  subst e2
  exact K v I' hv
theorem bp_Md_byteAt_12 {d : Nat} {B : kv_B} {Q : kv_Q} {kc ks n : Nat} {S : kv_SM} {I : kv_IM} {dc : Nat} {Qv : Option Value → kv_IM → Prop} {a0 : Nat} {v1 : Int32} {v2 : Int32} {r1 : Nat → Option Nat} {q2 : Nat} {m3 : Nat} {j4 : Nat} (hO1 : S a0 = kO 6 r1) (hr2 : r1 2 = some q2) (hA3 : S q2 = kI m3) (hi4 : v1 = nI j4 ∧ j4 < m3 ∧ m3 < 2 ^ 31) (hM : kv_P y_Md_in dc B [.int v2, .int 0, .int ((I q2 j4) - 1)] n S I Qv) (hdp : dc + 1 ≤ d) (K : ∀ v I', Qv v I' → kv_V y_Md_byteAt d B Q kc ks n S I' 25 [(0, .ref a0), (1, .int v1), (2, .int v2)] (v.toList ++ [])) : kv_V y_Md_byteAt d B Q kc ks n S I 12 [(0, .ref a0), (1, .int v1), (2, .int v2)] [] := by
  refine bl_Md_byteAt_12 hO1 hr2 hA3 hi4 hM hdp (Nat.zero_le _) (Nat.zero_le _) (fun v n' S' I' hv => ?_)
  obtain ⟨e1, e2, hv⟩ := hv
  subst e1
  subst e2
  exact K v I' hv
theorem bp_Md_blocks_0 {d : Nat} {B : kv_B} {Q : kv_Q} {kc ks n : Nat} {S : kv_SM} {I : kv_IM} {dc : Nat} {Qv : Option Value → kv_IM → Prop} {a0 : Nat} {v1 : Int32} {r1 : Nat → Option Nat} (hO1 : S a0 = kO 6 r1) (hM : kv_P y_Md_isText dc B [.int v1] n S (kv_up I a0 0 0) Qv) (hdp : dc + 1 ≤ d) (K : ∀ v I', Qv v I' → kv_V y_Md_blocks d B Q kc ks n S I' 9 [(0, .ref a0), (1, .int v1)] (v.toList ++ [])) : kv_V y_Md_blocks d B Q kc ks n S I 0 [(0, .ref a0), (1, .int v1)] [] := by
  refine bl_Md_blocks_0 hO1 hM hdp (Nat.zero_le _) (Nat.zero_le _) (fun v n' S' I' hv => ?_)
  obtain ⟨e1, e2, hv⟩ := hv
  subst e1
  subst e2
  exact K v I' hv
theorem bp_Md_blocks_12 {d : Nat} {B : kv_B} {Q : kv_Q} {kc ks n : Nat} {S : kv_SM} {I : kv_IM} {dc : Nat} {Qv : Option Value → kv_IM → Prop} {a0 : Nat} {v1 : Int32} {r1 : Nat → Option Nat} {q2 : Nat} (hO1 : S a0 = kO 6 r1) (hr2 : r1 10 = some q2) (hM : kv_P y_Md_layCuts dc B [.ref a0, .int v1, .ref q2] n S I Qv) (hdp : dc + 1 ≤ d) (K : ∀ v I', Qv v I' → kv_V y_Md_blocks d B Q kc ks n S I' 21 [(0, .ref a0), (1, .int v1)] (v.toList ++ [])) : kv_V y_Md_blocks d B Q kc ks n S I 12 [(0, .ref a0), (1, .int v1)] [] := by
  refine bl_Md_blocks_12 hO1 hr2 hM hdp (Nat.zero_le _) (Nat.zero_le _) (fun v n' S' I' hv => ?_)
  obtain ⟨e1, e2, hv⟩ := hv
  subst e1
  subst e2
  exact K v I' hv
theorem bp_Md_layCuts_16 {d : Nat} {B : kv_B} {Q : kv_Q} {kc ks n : Nat} {S : kv_SM} {I : kv_IM} {dc : Nat} {Qv : Option Value → kv_IM → Prop} {a0 : Nat} {v1 : Int32} {a2 : Nat} {v3 : Int32} {v4 : Int32} {m1 : Nat} {j2 : Nat} {r3 : Nat → Option Nat} (hA1 : S a2 = kI m1) (hi2 : v3 = nI j2 ∧ j2 < m1 ∧ m1 < 2 ^ 31) (hO3 : S a0 = kO 6 r3) (hM : kv_P y_Md_longFrom dc B [.ref a0, .int v1, .int v4] n S (kv_up I a2 j2 v4) Qv) (hdp : dc + 1 ≤ d) (K : ∀ v I', Qv v I' → kv_V y_Md_layCuts d B Q kc ks n S I' 33 [(0, .ref a0), (1, .int v1), (2, .ref a2), (3, .int (v3 + 1)), (4, .int v4)] (v.toList ++ [.int v4])) : kv_V y_Md_layCuts d B Q kc ks n S I 16 [(0, .ref a0), (1, .int v1), (2, .ref a2), (3, .int v3), (4, .int v4)] [] := by
  refine bl_Md_layCuts_16 hA1 hi2 hO3 hM hdp (Nat.zero_le _) (Nat.zero_le _) (fun v n' S' I' hv => ?_)
  obtain ⟨e1, e2, hv⟩ := hv
  subst e1
  subst e2
  exact K v I' hv
theorem bp_Md_longFrom_21 {d : Nat} {B : kv_B} {Q : kv_Q} {kc ks n : Nat} {S : kv_SM} {I : kv_IM} {dc : Nat} {Qv : Option Value → kv_IM → Prop} {a0 : Nat} {v1 : Int32} {v2 : Int32} {v3 : Int32} {v4 : Int32} {v5 : Int32} {r1 : Nat → Option Nat} (hO1 : S a0 = kO 6 r1) (hM : kv_P y_Md_next dc B [.ref a0, .int v3, .int v1, .int v2, .int v5] n S I Qv) (hdp : dc + 1 ≤ d) (K : ∀ v I', Qv v I' → kv_V y_Md_longFrom d B Q kc ks n S I' 30 [(0, .ref a0), (1, .int v1), (2, .int v2), (3, .int v3), (4, .int v4), (5, .int v5)] (v.toList ++ [])) : kv_V y_Md_longFrom d B Q kc ks n S I 21 [(0, .ref a0), (1, .int v1), (2, .int v2), (3, .int v3), (4, .int v4), (5, .int v5)] [] := by
  refine bl_Md_longFrom_21 hO1 hM hdp (Nat.zero_le _) (Nat.zero_le _) (fun v n' S' I' hv => ?_)
  obtain ⟨e1, e2, hv⟩ := hv
  subst e1
  subst e2
  exact K v I' hv
theorem bp_Md_longFrom_121 {d : Nat} {B : kv_B} {Q : kv_Q} {kc ks n : Nat} {S : kv_SM} {I : kv_IM} {dc : Nat} {Qv : Option Value → kv_IM → Prop} {a0 : Nat} {v1 : Int32} {v2 : Int32} {v3 : Int32} {v4 : Int32} {v5 : Int32} {v6 : Int32} {t0 : Int32}  (hM : kv_P y_Md_isMarked dc B [.int v3, .int t0] n S I Qv) (hdp : dc + 1 ≤ d) (K : ∀ v I', Qv v I' → kv_V y_Md_longFrom d B Q kc ks n S I' 129 [(0, .ref a0), (1, .int v1), (2, .int v2), (3, .int v3), (4, .int v4), (5, .int v5), (6, .int v6), (7, .int t0)] (v.toList ++ [])) : kv_V y_Md_longFrom d B Q kc ks n S I 121 [(0, .ref a0), (1, .int v1), (2, .int v2), (3, .int v3), (4, .int v4), (5, .int v5), (6, .int v6)] [.int t0] := by
  refine bl_Md_longFrom_121  hM hdp (Nat.zero_le _) (Nat.zero_le _) (fun v n' S' I' hv => ?_)
  obtain ⟨e1, e2, hv⟩ := hv
  subst e1
  subst e2
  exact K v I' hv
theorem bp_Md_longFrom_169 {d : Nat} {B : kv_B} {Q : kv_Q} {kc ks n : Nat} {S : kv_SM} {I : kv_IM} {dc : Nat} {Qv : Option Value → kv_IM → Prop} {a0 : Nat} {v1 : Int32} {v2 : Int32} {v3 : Int32} {v4 : Int32} {v5 : Int32} {v6 : Int32} {v7 : Int32} {r1 : Nat → Option Nat} (hO1 : S a0 = kO 6 r1) (hM : kv_P y_Md_isMarked dc B [.int v3, .int ((I a0 7) - (I a0 8))] n S I Qv) (hdp : dc + 1 ≤ d) (K : ∀ v I', Qv v I' → kv_V y_Md_longFrom d B Q kc ks n S I' 182 [(0, .ref a0), (1, .int v1), (2, .int v2), (3, .int v3), (4, .int v4), (5, .int v5), (6, .int v6), (7, .int v7)] (v.toList ++ [])) : kv_V y_Md_longFrom d B Q kc ks n S I 169 [(0, .ref a0), (1, .int v1), (2, .int v2), (3, .int v3), (4, .int v4), (5, .int v5), (6, .int v6), (7, .int v7)] [] := by
  refine bl_Md_longFrom_169 hO1 hM hdp (Nat.zero_le _) (Nat.zero_le _) (fun v n' S' I' hv => ?_)
  obtain ⟨e1, e2, hv⟩ := hv
  subst e1
  subst e2
  exact K v I' hv
theorem bp_Md_next_39 {d : Nat} {B : kv_B} {Q : kv_Q} {kc ks n : Nat} {S : kv_SM} {I : kv_IM} {dc : Nat} {Qv : Option Value → kv_IM → Prop} {a0 : Nat} {v1 : Int32} {v2 : Int32} {v3 : Int32} {v4 : Int32} {v5 : Int32}  (hM : kv_P y_Md_turn dc B [.int v1, .int 1] n S I Qv) (hdp : dc + 1 ≤ d) (K : ∀ v I', Qv v I' → kv_V y_Md_next d B Q kc ks n S I' 44 [(0, .ref a0), (1, .int v1), (2, .int v2), (3, .int v3), (4, .int v4), (5, .int v5)] (v.toList ++ [])) : kv_V y_Md_next d B Q kc ks n S I 39 [(0, .ref a0), (1, .int v1), (2, .int v2), (3, .int v3), (4, .int v4), (5, .int v5)] [] := by
  refine bl_Md_next_39  hM hdp (Nat.zero_le _) (Nat.zero_le _) (fun v n' S' I' hv => ?_)
  obtain ⟨e1, e2, hv⟩ := hv
  subst e1
  subst e2
  exact K v I' hv
theorem bp_Md_next_56 {d : Nat} {B : kv_B} {Q : kv_Q} {kc ks n : Nat} {S : kv_SM} {I : kv_IM} {dc : Nat} {Qv : Option Value → kv_IM → Prop} {a0 : Nat} {v1 : Int32} {v2 : Int32} {v3 : Int32} {v4 : Int32} {v5 : Int32} {v6 : Int32} {r1 : Nat → Option Nat} {q2 : Nat} {q3 : Nat} {m4 : Nat} {j5 : Nat} {m6 : Nat} {j7 : Nat} (hO1 : S a0 = kO 6 r1) (hr2 : r1 3 = some q2) (hr3 : r1 1 = some q3) (hA4 : S q3 = kI m4) (hi5 : (((1500 * v2) + v3) + v4) - 17 = nI j5 ∧ j5 < m4 ∧ m4 < 2 ^ 31) (hA6 : S q2 = kI m6) (hi7 : I q3 j5 = nI j7 ∧ j7 < m6 ∧ m6 < 2 ^ 31) (hM : kv_P y_Md_turn dc B [.int (I q2 j7), .int 16] n S I Qv) (hdp : dc + 1 ≤ d) (K : ∀ v I', Qv v I' → kv_V y_Md_next d B Q kc ks n S I' 86 [(0, .ref a0), (1, .int v1), (2, .int v2), (3, .int v3), (4, .int v4), (5, .int v5), (6, .int v6)] (v.toList ++ [.int v6])) : kv_V y_Md_next d B Q kc ks n S I 56 [(0, .ref a0), (1, .int v1), (2, .int v2), (3, .int v3), (4, .int v4), (5, .int v5), (6, .int v6)] [] := by
  refine bl_Md_next_56 hO1 hr2 hr3 hA4 hi5 hA6 hi7 hM hdp (Nat.zero_le _) (Nat.zero_le _) (fun v n' S' I' hv => ?_)
  obtain ⟨e1, e2, hv⟩ := hv
  subst e1
  subst e2
  exact K v I' hv
theorem bp_Md_block_0 {d : Nat} {B : kv_B} {Q : kv_Q} {kc ks n : Nat} {S : kv_SM} {I : kv_IM} {dc : Nat} {Qv : Option Value → kv_IM → Prop} {a0 : Nat} {v1 : Int32} {v2 : Int32} {v3 : Int32} {r1 : Nat → Option Nat} (hO1 : S a0 = kO 6 r1) (hM : kv_P y_Md_isBlock dc B [.ref a0, .int v1, .int v2] n S (kv_up I a0 0 0) Qv) (hdp : dc + 1 ≤ d) (K : ∀ v I', Qv v I' → kv_V y_Md_block d B Q kc ks n S I' 11 [(0, .ref a0), (1, .int v1), (2, .int v2), (3, .int v3)] (v.toList ++ [])) : kv_V y_Md_block d B Q kc ks n S I 0 [(0, .ref a0), (1, .int v1), (2, .int v2), (3, .int v3)] [] := by
  refine bl_Md_block_0 hO1 hM hdp (Nat.zero_le _) (Nat.zero_le _) (fun v n' S' I' hv => ?_)
  obtain ⟨e1, e2, hv⟩ := hv
  subst e1
  subst e2
  exact K v I' hv
theorem bp_Md_block_14 {d : Nat} {B : kv_B} {Q : kv_Q} {kc ks n : Nat} {S : kv_SM} {I : kv_IM} {dc : Nat} {Qv : Option Value → kv_IM → Prop} {a0 : Nat} {v1 : Int32} {v2 : Int32} {v3 : Int32}  (hM : kv_P y_Md_in dc B [.int v3, .int 0, .int 1] n S I Qv) (hdp : dc + 1 ≤ d) (K : ∀ v I', Qv v I' → kv_V y_Md_block d B Q kc ks n S I' 20 [(0, .ref a0), (1, .int v1), (2, .int v2), (3, .int v3)] (v.toList ++ [])) : kv_V y_Md_block d B Q kc ks n S I 14 [(0, .ref a0), (1, .int v1), (2, .int v2), (3, .int v3)] [] := by
  refine bl_Md_block_14  hM hdp (Nat.zero_le _) (Nat.zero_le _) (fun v n' S' I' hv => ?_)
  obtain ⟨e1, e2, hv⟩ := hv
  subst e1
  subst e2
  exact K v I' hv
theorem bp_Md_isBlock_0 {d : Nat} {B : kv_B} {Q : kv_Q} {kc ks n : Nat} {S : kv_SM} {I : kv_IM} {dc : Nat} {Qv : Option Value → kv_IM → Prop} {a0 : Nat} {v1 : Int32} {v2 : Int32}  (hM : kv_P y_Md_isText dc B [.int v1] n S I Qv) (hdp : dc + 1 ≤ d) (K : ∀ v I', Qv v I' → kv_V y_Md_isBlock d B Q kc ks n S I' 4 [(0, .ref a0), (1, .int v1), (2, .int v2)] (v.toList ++ [])) : kv_V y_Md_isBlock d B Q kc ks n S I 0 [(0, .ref a0), (1, .int v1), (2, .int v2)] [] := by
  refine bl_Md_isBlock_0  hM hdp (Nat.zero_le _) (Nat.zero_le _) (fun v n' S' I' hv => ?_)
  obtain ⟨e1, e2, hv⟩ := hv
  subst e1
  subst e2
  exact K v I' hv
theorem bp_Md_isBlock_9 {d : Nat} {B : kv_B} {Q : kv_Q} {kc ks n : Nat} {S : kv_SM} {I : kv_IM} {dc : Nat} {Qv : Option Value → kv_IM → Prop} {a0 : Nat} {v1 : Int32} {v2 : Int32} {r1 : Nat → Option Nat} {q2 : Nat} (hO1 : S a0 = kO 6 r1) (hr2 : r1 10 = some q2) (hM : kv_P y_Md_layCuts dc B [.ref a0, .int v1, .ref q2] n S I Qv) (hdp : dc + 1 ≤ d) (K : ∀ v I', Qv v I' → kv_V y_Md_isBlock d B Q kc ks n S I' 19 [(0, .ref a0), (1, .int v1), (2, .int v2)] (v.toList ++ [.ref a0])) : kv_V y_Md_isBlock d B Q kc ks n S I 9 [(0, .ref a0), (1, .int v1), (2, .int v2)] [] := by
  refine bl_Md_isBlock_9 hO1 hr2 hM hdp (Nat.zero_le _) (Nat.zero_le _) (fun v n' S' I' hv => ?_)
  obtain ⟨e1, e2, hv⟩ := hv
  subst e1
  subst e2
  exact K v I' hv
theorem bp_Md_isBlock_19 {d : Nat} {B : kv_B} {Q : kv_Q} {kc ks n : Nat} {S : kv_SM} {I : kv_IM} {dc : Nat} {Qv : Option Value → kv_IM → Prop} {a0 : Nat} {v1 : Int32} {v2 : Int32} {t0 : Int32} {t1 : Nat} {r1 : Nat → Option Nat} {r2 : Nat → Option Nat} (hO1 : S t1 = kO 6 r1) (hO2 : S a0 = kO 6 r2) (hM : kv_P y_Md_in dc B [.int v2, .int 0, .int (((kv_up I t1 11 t0) a0 11) - 1)] n S (kv_up I t1 11 t0) Qv) (hdp : dc + 1 ≤ d) (K : ∀ v I', Qv v I' → kv_V y_Md_isBlock d B Q kc ks n S I' 33 [(0, .ref a0), (1, .int v1), (2, .int v2)] (v.toList ++ [])) : kv_V y_Md_isBlock d B Q kc ks n S I 19 [(0, .ref a0), (1, .int v1), (2, .int v2)] [.int t0, .ref t1] := by
  refine bl_Md_isBlock_19 hO1 hO2 hM hdp (Nat.zero_le _) (Nat.zero_le _) (fun v n' S' I' hv => ?_)
  obtain ⟨e1, e2, hv⟩ := hv
  subst e1
  subst e2
  exact K v I' hv
theorem bp_Md_digest_0 {d : Nat} {B : kv_B} {Q : kv_Q} {kc ks n : Nat} {S : kv_SM} {I : kv_IM} {dc : Nat} {Qv : Option Value → kv_IM → Prop} {a0 : Nat} {v1 : Int32} {v2 : Int32} {v3 : Int32} {r1 : Nat → Option Nat} (hO1 : S a0 = kO 6 r1) (hM : kv_P y_Md_isBlock dc B [.ref a0, .int v1, .int v2] n S (kv_up I a0 0 0) Qv) (hdp : dc + 1 ≤ d) (K : ∀ v I', Qv v I' → kv_V y_Md_digest d B Q kc ks n S I' 11 [(0, .ref a0), (1, .int v1), (2, .int v2), (3, .int v3)] (v.toList ++ [])) : kv_V y_Md_digest d B Q kc ks n S I 0 [(0, .ref a0), (1, .int v1), (2, .int v2), (3, .int v3)] [] := by
  refine bl_Md_digest_0 hO1 hM hdp (Nat.zero_le _) (Nat.zero_le _) (fun v n' S' I' hv => ?_)
  obtain ⟨e1, e2, hv⟩ := hv
  subst e1
  subst e2
  exact K v I' hv
theorem bp_Md_digest_14 {d : Nat} {B : kv_B} {Q : kv_Q} {kc ks n : Nat} {S : kv_SM} {I : kv_IM} {dc : Nat} {Qv : Option Value → kv_IM → Prop} {a0 : Nat} {v1 : Int32} {v2 : Int32} {v3 : Int32}  (hM : kv_P y_Md_in dc B [.int v3, .int 0, .int 1] n S I Qv) (hdp : dc + 1 ≤ d) (K : ∀ v I', Qv v I' → kv_V y_Md_digest d B Q kc ks n S I' 20 [(0, .ref a0), (1, .int v1), (2, .int v2), (3, .int v3)] (v.toList ++ [])) : kv_V y_Md_digest d B Q kc ks n S I 14 [(0, .ref a0), (1, .int v1), (2, .int v2), (3, .int v3)] [] := by
  refine bl_Md_digest_14  hM hdp (Nat.zero_le _) (Nat.zero_le _) (fun v n' S' I' hv => ?_)
  obtain ⟨e1, e2, hv⟩ := hv
  subst e1
  subst e2
  exact K v I' hv
theorem bp_Md_digest_27 {d : Nat} {B : kv_B} {Q : kv_Q} {kc ks n : Nat} {S : kv_SM} {I : kv_IM} {dc : Nat} {Qv : Option Value → kv_IM → Prop} {a0 : Nat} {v1 : Int32} {v2 : Int32} {v3 : Int32} {r1 : Nat → Option Nat} {q2 : Nat} {q3 : Nat} {m4 : Nat} {j5 : Nat} {j6 : Nat} (hO1 : S a0 = kO 6 r1) (hr2 : r1 1 = some q2) (hr3 : r1 10 = some q3) (hA4 : S q3 = kI m4) (hi5 : v2 = nI j5 ∧ j5 < m4 ∧ m4 < 2 ^ 31) (hi6 : v2 + 1 = nI j6 ∧ j6 < m4 ∧ m4 < 2 ^ 31) (hM : kv_P y_Md_digestOf dc B [.ref q2, .int ((1500 * v1) + (I q3 j5)), .int ((1500 * v1) + (I q3 j6)), .int v3] n S I Qv) (hdp : dc + 1 ≤ d) (K : ∀ v I', Qv v I' → kv_V y_Md_digest d B Q kc ks n S I' 61 [(0, .ref a0), (1, .int v1), (2, .int v2), (3, .int v3)] (v.toList ++ [])) : kv_V y_Md_digest d B Q kc ks n S I 27 [(0, .ref a0), (1, .int v1), (2, .int v2), (3, .int v3)] [] := by
  refine bl_Md_digest_27 hO1 hr2 hr3 hA4 hi5 hi6 hM hdp (Nat.zero_le _) (Nat.zero_le _) (fun v n' S' I' hv => ?_)
  obtain ⟨e1, e2, hv⟩ := hv
  subst e1
  subst e2
  exact K v I' hv
theorem bp_Md_hash_0 {d : Nat} {B : kv_B} {Q : kv_Q} {kc ks n : Nat} {S : kv_SM} {I : kv_IM} {dc : Nat} {Qv : Option Value → kv_IM → Prop} {a0 : Nat} {v1 : Int32} {v2 : Int32} {r1 : Nat → Option Nat} (hO1 : S a0 = kO 6 r1) (hM : kv_P y_Md_isText dc B [.int v1] n S (kv_up I a0 0 0) Qv) (hdp : dc + 1 ≤ d) (K : ∀ v I', Qv v I' → kv_V y_Md_hash d B Q kc ks n S I' 9 [(0, .ref a0), (1, .int v1), (2, .int v2)] (v.toList ++ [])) : kv_V y_Md_hash d B Q kc ks n S I 0 [(0, .ref a0), (1, .int v1), (2, .int v2)] [] := by
  refine bl_Md_hash_0 hO1 hM hdp (Nat.zero_le _) (Nat.zero_le _) (fun v n' S' I' hv => ?_)
  obtain ⟨e1, e2, hv⟩ := hv
  subst e1
  subst e2
  exact K v I' hv
theorem bp_Md_hash_12 {d : Nat} {B : kv_B} {Q : kv_Q} {kc ks n : Nat} {S : kv_SM} {I : kv_IM} {dc : Nat} {Qv : Option Value → kv_IM → Prop} {a0 : Nat} {v1 : Int32} {v2 : Int32} {r1 : Nat → Option Nat} {q2 : Nat} {m3 : Nat} {j4 : Nat} (hO1 : S a0 = kO 6 r1) (hr2 : r1 2 = some q2) (hA3 : S q2 = kI m3) (hi4 : v1 = nI j4 ∧ j4 < m3 ∧ m3 < 2 ^ 31) (hM : kv_P y_Md_in dc B [.int v2, .int 0, .int ((I q2 j4) - 1)] n S I Qv) (hdp : dc + 1 ≤ d) (K : ∀ v I', Qv v I' → kv_V y_Md_hash d B Q kc ks n S I' 25 [(0, .ref a0), (1, .int v1), (2, .int v2)] (v.toList ++ [])) : kv_V y_Md_hash d B Q kc ks n S I 12 [(0, .ref a0), (1, .int v1), (2, .int v2)] [] := by
  refine bl_Md_hash_12 hO1 hr2 hA3 hi4 hM hdp (Nat.zero_le _) (Nat.zero_le _) (fun v n' S' I' hv => ?_)
  obtain ⟨e1, e2, hv⟩ := hv
  subst e1
  subst e2
  exact K v I' hv
theorem bp_Md_hash_32 {d : Nat} {B : kv_B} {Q : kv_Q} {kc ks n : Nat} {S : kv_SM} {I : kv_IM} {dc : Nat} {Qv : Option Value → kv_IM → Prop} {a0 : Nat} {v1 : Int32} {v2 : Int32} {r1 : Nat → Option Nat} {q2 : Nat} (hO1 : S a0 = kO 6 r1) (hr2 : r1 10 = some q2) (hM : kv_P y_Md_layCuts dc B [.ref a0, .int v1, .ref q2] n S I Qv) (hdp : dc + 1 ≤ d) (K : ∀ v I', Qv v I' → kv_V y_Md_hash d B Q kc ks n S I' 41 [(0, .ref a0), (1, .int v1), (2, .int v2)] (v.toList ++ [])) : kv_V y_Md_hash d B Q kc ks n S I 32 [(0, .ref a0), (1, .int v1), (2, .int v2)] [] := by
  refine bl_Md_hash_32 hO1 hr2 hM hdp (Nat.zero_le _) (Nat.zero_le _) (fun v n' S' I' hv => ?_)
  obtain ⟨e1, e2, hv⟩ := hv
  subst e1
  subst e2
  exact K v I' hv
theorem bp_Md_hash_94 {d : Nat} {B : kv_B} {Q : kv_Q} {kc ks n : Nat} {S : kv_SM} {I : kv_IM} {dc : Nat} {Qv : Option Value → kv_IM → Prop} {a0 : Nat} {v1 : Int32} {v2 : Int32} {v3 : Int32} {v4 : Int32} {v5 : Int32} {v6 : Int32} {r1 : Nat → Option Nat} {q2 : Nat} {m3 : Nat} {j4 : Nat} (hO1 : S a0 = kO 6 r1) (hr2 : r1 10 = some q2) (hA3 : S q2 = kI m3) (hi4 : v4 = nI j4 ∧ j4 < m3 ∧ m3 < 2 ^ 31) (hM : kv_P y_Md_next dc B [.ref a0, .int v5, .int v1, .int (I q2 j4), .int v6] n S I Qv) (hdp : dc + 1 ≤ d) (K : ∀ v I', Qv v I' → kv_V y_Md_hash d B Q kc ks n S I' 110 [(0, .ref a0), (1, .int v1), (2, .int v2), (3, .int v3), (4, .int v4), (5, .int v5), (6, .int v6)] (v.toList ++ [])) : kv_V y_Md_hash d B Q kc ks n S I 94 [(0, .ref a0), (1, .int v1), (2, .int v2), (3, .int v3), (4, .int v4), (5, .int v5), (6, .int v6)] [] := by
  refine bl_Md_hash_94 hO1 hr2 hA3 hi4 hM hdp (Nat.zero_le _) (Nat.zero_le _) (fun v n' S' I' hv => ?_)
  obtain ⟨e1, e2, hv⟩ := hv
  subst e1
  subst e2
  exact K v I' hv
theorem bp_Md_alike_0 {d : Nat} {B : kv_B} {Q : kv_Q} {kc ks n : Nat} {S : kv_SM} {I : kv_IM} {dc : Nat} {Qv : Option Value → kv_IM → Prop} {a0 : Nat} {v1 : Int32} {v2 : Int32} {v3 : Int32} {r1 : Nat → Option Nat} (hO1 : S a0 = kO 6 r1) (hM : kv_P y_Md_isText dc B [.int v1] n S (kv_up I a0 0 0) Qv) (hdp : dc + 1 ≤ d) (K : ∀ v I', Qv v I' → kv_V y_Md_alike d B Q kc ks n S I' 9 [(0, .ref a0), (1, .int v1), (2, .int v2), (3, .int v3)] (v.toList ++ [])) : kv_V y_Md_alike d B Q kc ks n S I 0 [(0, .ref a0), (1, .int v1), (2, .int v2), (3, .int v3)] [] := by
  refine bl_Md_alike_0 hO1 hM hdp (Nat.zero_le _) (Nat.zero_le _) (fun v n' S' I' hv => ?_)
  obtain ⟨e1, e2, hv⟩ := hv
  subst e1
  subst e2
  exact K v I' hv
theorem bp_Md_alike_12 {d : Nat} {B : kv_B} {Q : kv_Q} {kc ks n : Nat} {S : kv_SM} {I : kv_IM} {dc : Nat} {Qv : Option Value → kv_IM → Prop} {a0 : Nat} {v1 : Int32} {v2 : Int32} {v3 : Int32}  (hM : kv_P y_Md_isText dc B [.int v2] n S I Qv) (hdp : dc + 1 ≤ d) (K : ∀ v I', Qv v I' → kv_V y_Md_alike d B Q kc ks n S I' 16 [(0, .ref a0), (1, .int v1), (2, .int v2), (3, .int v3)] (v.toList ++ [])) : kv_V y_Md_alike d B Q kc ks n S I 12 [(0, .ref a0), (1, .int v1), (2, .int v2), (3, .int v3)] [] := by
  refine bl_Md_alike_12  hM hdp (Nat.zero_le _) (Nat.zero_le _) (fun v n' S' I' hv => ?_)
  obtain ⟨e1, e2, hv⟩ := hv
  subst e1
  subst e2
  exact K v I' hv
theorem bp_Md_alike_19 {d : Nat} {B : kv_B} {Q : kv_Q} {kc ks n : Nat} {S : kv_SM} {I : kv_IM} {dc : Nat} {Qv : Option Value → kv_IM → Prop} {a0 : Nat} {v1 : Int32} {v2 : Int32} {v3 : Int32}  (hM : kv_P y_Md_in dc B [.int v3, .int 0, .int 3] n S I Qv) (hdp : dc + 1 ≤ d) (K : ∀ v I', Qv v I' → kv_V y_Md_alike d B Q kc ks n S I' 25 [(0, .ref a0), (1, .int v1), (2, .int v2), (3, .int v3)] (v.toList ++ [])) : kv_V y_Md_alike d B Q kc ks n S I 19 [(0, .ref a0), (1, .int v1), (2, .int v2), (3, .int v3)] [] := by
  refine bl_Md_alike_19  hM hdp (Nat.zero_le _) (Nat.zero_le _) (fun v n' S' I' hv => ?_)
  obtain ⟨e1, e2, hv⟩ := hv
  subst e1
  subst e2
  exact K v I' hv
theorem bp_Md_alike_30 {d : Nat} {B : kv_B} {Q : kv_Q} {kc ks n : Nat} {S : kv_SM} {I : kv_IM} {dc : Nat} {Qv : Option Value → kv_IM → Prop} {a0 : Nat} {v1 : Int32} {v2 : Int32} {v3 : Int32} {r1 : Nat → Option Nat} {q2 : Nat} (hO1 : S a0 = kO 6 r1) (hr2 : r1 10 = some q2) (hM : kv_P y_Md_layCuts dc B [.ref a0, .int v1, .ref q2] n S I Qv) (hdp : dc + 1 ≤ d) (K : ∀ v I', Qv v I' → kv_V y_Md_alike d B Q kc ks n S I' 40 [(0, .ref a0), (1, .int v1), (2, .int v2), (3, .int v3)] (v.toList ++ [.ref a0])) : kv_V y_Md_alike d B Q kc ks n S I 30 [(0, .ref a0), (1, .int v1), (2, .int v2), (3, .int v3)] [] := by
  refine bl_Md_alike_30 hO1 hr2 hM hdp (Nat.zero_le _) (Nat.zero_le _) (fun v n' S' I' hv => ?_)
  obtain ⟨e1, e2, hv⟩ := hv
  subst e1
  subst e2
  exact K v I' hv
theorem bp_Md_alike_40 {d : Nat} {B : kv_B} {Q : kv_Q} {kc ks n : Nat} {S : kv_SM} {I : kv_IM} {dc : Nat} {Qv : Option Value → kv_IM → Prop} {a0 : Nat} {v1 : Int32} {v2 : Int32} {v3 : Int32} {t0 : Int32} {t1 : Nat} {r1 : Nat → Option Nat} {r2 : Nat → Option Nat} {q3 : Nat} (hO1 : S t1 = kO 6 r1) (hO2 : S a0 = kO 6 r2) (hr3 : r2 12 = some q3) (hM : kv_P y_Md_layCuts dc B [.ref a0, .int v2, .ref q3] n S (kv_up I t1 11 t0) Qv) (hdp : dc + 1 ≤ d) (K : ∀ v I', Qv v I' → kv_V y_Md_alike d B Q kc ks n S I' 53 [(0, .ref a0), (1, .int v1), (2, .int v2), (3, .int v3)] (v.toList ++ [.ref a0])) : kv_V y_Md_alike d B Q kc ks n S I 40 [(0, .ref a0), (1, .int v1), (2, .int v2), (3, .int v3)] [.int t0, .ref t1] := by
  refine bl_Md_alike_40 hO1 hO2 hr3 hM hdp (Nat.zero_le _) (Nat.zero_le _) (fun v n' S' I' hv => ?_)
  obtain ⟨e1, e2, hv⟩ := hv
  subst e1
  subst e2
  exact K v I' hv
theorem bp_Md_alike_96 {d : Nat} {B : kv_B} {Q : kv_Q} {kc ks n : Nat} {S : kv_SM} {I : kv_IM} {dc : Nat} {Qv : Option Value → kv_IM → Prop} {a0 : Nat} {v1 : Int32} {v2 : Int32} {v3 : Int32} {v4 : Int32} {v5 : Int32} {v6 : Int32} {v7 : Int32} {r1 : Nat → Option Nat} (hO1 : S a0 = kO 6 r1) (hM : kv_P y_Md_isLike dc B [.ref a0, .int v1, .int v5, .int v2, .int v7] n S I Qv) (hdp : dc + 1 ≤ d) (K : ∀ v I', Qv v I' → kv_V y_Md_alike d B Q kc ks n S I' 106 [(0, .ref a0), (1, .int v1), (2, .int v2), (3, .int v3), (4, .int v4), (5, .int v5), (6, .int v6), (7, .int v7)] (v.toList ++ [])) : kv_V y_Md_alike d B Q kc ks n S I 96 [(0, .ref a0), (1, .int v1), (2, .int v2), (3, .int v3), (4, .int v4), (5, .int v5), (6, .int v6), (7, .int v7)] [] := by
  refine bl_Md_alike_96 hO1 hM hdp (Nat.zero_le _) (Nat.zero_le _) (fun v n' S' I' hv => ?_)
  obtain ⟨e1, e2, hv⟩ := hv
  subst e1
  subst e2
  exact K v I' hv
theorem bp_Md_alike_185 {d : Nat} {B : kv_B} {Q : kv_Q} {kc ks n : Nat} {S : kv_SM} {I : kv_IM} {dc : Nat} {Qv : Option Value → kv_IM → Prop} {a0 : Nat} {v1 : Int32} {v2 : Int32} {v3 : Int32} {v4 : Int32} {r1 : Nat → Option Nat} (hO1 : S a0 = kO 6 r1) (hM : kv_P y_Md_isLike dc B [.ref a0, .int v1, .int v4, .int v2, .int v4] n S I Qv) (hdp : dc + 1 ≤ d) (K : ∀ v I', Qv v I' → kv_V y_Md_alike d B Q kc ks n S I' 195 [(0, .ref a0), (1, .int v1), (2, .int v2), (3, .int v3), (4, .int v4)] (v.toList ++ [])) : kv_V y_Md_alike d B Q kc ks n S I 185 [(0, .ref a0), (1, .int v1), (2, .int v2), (3, .int v3), (4, .int v4)] [] := by
  refine bl_Md_alike_185 hO1 hM hdp (Nat.zero_le _) (Nat.zero_le _) (fun v n' S' I' hv => ?_)
  obtain ⟨e1, e2, hv⟩ := hv
  subst e1
  subst e2
  exact K v I' hv
theorem bp_Md_alike_201 {d : Nat} {B : kv_B} {Q : kv_Q} {kc ks n : Nat} {S : kv_SM} {I : kv_IM} {dc : Nat} {Qv : Option Value → kv_IM → Prop} {a0 : Nat} {v1 : Int32} {v2 : Int32} {v3 : Int32} {v4 : Int32} {r1 : Nat → Option Nat} (hO1 : S a0 = kO 6 r1) (hM : kv_P y_Md_isLike dc B [.ref a0, .int v1, .int (((I a0 11) - 1) - v4), .int v2, .int (((I a0 13) - 1) - v4)] n S I Qv) (hdp : dc + 1 ≤ d) (K : ∀ v I', Qv v I' → kv_V y_Md_alike d B Q kc ks n S I' 225 [(0, .ref a0), (1, .int v1), (2, .int v2), (3, .int v3), (4, .int v4)] (v.toList ++ [])) : kv_V y_Md_alike d B Q kc ks n S I 201 [(0, .ref a0), (1, .int v1), (2, .int v2), (3, .int v3), (4, .int v4)] [] := by
  refine bl_Md_alike_201 hO1 hM hdp (Nat.zero_le _) (Nat.zero_le _) (fun v n' S' I' hv => ?_)
  obtain ⟨e1, e2, hv⟩ := hv
  subst e1
  subst e2
  exact K v I' hv
theorem bp_Md_isLike_39 {d : Nat} {B : kv_B} {Q : kv_Q} {kc ks n : Nat} {S : kv_SM} {I : kv_IM} {dc : Nat} {Qv : Option Value → kv_IM → Prop} {a0 : Nat} {v1 : Int32} {v2 : Int32} {v3 : Int32} {v4 : Int32} {v5 : Int32} {r1 : Nat → Option Nat} {q2 : Nat} {q3 : Nat} {m4 : Nat} {j5 : Nat} {q6 : Nat} {m7 : Nat} {j8 : Nat} (hO1 : S a0 = kO 6 r1) (hr2 : r1 1 = some q2) (hr3 : r1 10 = some q3) (hA4 : S q3 = kI m4) (hi5 : v2 = nI j5 ∧ j5 < m4 ∧ m4 < 2 ^ 31) (hr6 : r1 12 = some q6) (hA7 : S q6 = kI m7) (hi8 : v4 = nI j8 ∧ j8 < m7 ∧ m7 < 2 ^ 31) (hM : kv_P y_Md_isSame dc B [.ref q2, .int ((1500 * v1) + (I q3 j5)), .ref q2, .int ((1500 * v3) + (I q6 j8)), .int v5] n S I Qv) (hdp : dc + 1 ≤ d) (K : ∀ v I', Qv v I' → kv_V y_Md_isLike d B Q kc ks n S I' 77 [(0, .ref a0), (1, .int v1), (2, .int v2), (3, .int v3), (4, .int v4), (5, .int v5)] (v.toList ++ [])) : kv_V y_Md_isLike d B Q kc ks n S I 39 [(0, .ref a0), (1, .int v1), (2, .int v2), (3, .int v3), (4, .int v4), (5, .int v5)] [] := by
  refine bl_Md_isLike_39 hO1 hr2 hr3 hA4 hi5 hr6 hA7 hi8 hM hdp (Nat.zero_le _) (Nat.zero_le _) (fun v n' S' I' hv => ?_)
  obtain ⟨e1, e2, hv⟩ := hv
  subst e1
  subst e2
  exact K v I' hv
theorem bp_Md_keep_0 {d : Nat} {B : kv_B} {Q : kv_Q} {kc ks n : Nat} {S : kv_SM} {I : kv_IM} {dc : Nat} {Qv : Option Value → kv_IM → Prop} {a0 : Nat} {v1 : Int32} {r1 : Nat → Option Nat} (hO1 : S a0 = kO 6 r1) (hM : kv_P y_Md_isText dc B [.int v1] n S (kv_up I a0 0 0) Qv) (hdp : dc + 1 ≤ d) (K : ∀ v I', Qv v I' → kv_V y_Md_keep d B Q kc ks n S I' 9 [(0, .ref a0), (1, .int v1)] (v.toList ++ [])) : kv_V y_Md_keep d B Q kc ks n S I 0 [(0, .ref a0), (1, .int v1)] [] := by
  refine bl_Md_keep_0 hO1 hM hdp (Nat.zero_le _) (Nat.zero_le _) (fun v n' S' I' hv => ?_)
  obtain ⟨e1, e2, hv⟩ := hv
  subst e1
  subst e2
  exact K v I' hv
theorem bp_Md_keep_46 {d : Nat} {B : kv_B} {Q : kv_Q} {kc ks n : Nat} {S : kv_SM} {I : kv_IM} {dc : Nat} {Qv : Option Value → kv_IM → Prop} {a0 : Nat} {v1 : Int32} {v2 : Int32} {r1 : Nat → Option Nat} {q2 : Nat} (hO1 : S a0 = kO 6 r1) (hr2 : r1 10 = some q2) (hM : kv_P y_Md_layCuts dc B [.ref a0, .int v1, .ref q2] n S I Qv) (hdp : dc + 1 ≤ d) (K : ∀ v I', Qv v I' → kv_V y_Md_keep d B Q kc ks n S I' 56 [(0, .ref a0), (1, .int v1), (2, .int v2)] (v.toList ++ [.ref a0])) : kv_V y_Md_keep d B Q kc ks n S I 46 [(0, .ref a0), (1, .int v1), (2, .int v2)] [] := by
  refine bl_Md_keep_46 hO1 hr2 hM hdp (Nat.zero_le _) (Nat.zero_le _) (fun v n' S' I' hv => ?_)
  obtain ⟨e1, e2, hv⟩ := hv
  subst e1
  subst e2
  exact K v I' hv
theorem bp_Md_keep_82 {d : Nat} {B : kv_B} {Q : kv_Q} {kc ks n : Nat} {S : kv_SM} {I : kv_IM} {dc : Nat} {Qv : Option Value → kv_IM → Prop} {a0 : Nat} {v1 : Int32} {v2 : Int32} {v3 : Int32} {v4 : Int32} {v5 : Int32} {r1 : Nat → Option Nat} (hO1 : S a0 = kO 6 r1) (hM : kv_P y_Md_find dc B [.ref a0, .int v1, .int v5] n S I Qv) (hdp : dc + 1 ≤ d) (K : ∀ v I', Qv v I' → kv_V y_Md_keep d B Q kc ks n S I' 89 [(0, .ref a0), (1, .int v1), (2, .int v2), (3, .int v3), (4, .int v4), (5, .int v5)] (v.toList ++ [])) : kv_V y_Md_keep d B Q kc ks n S I 82 [(0, .ref a0), (1, .int v1), (2, .int v2), (3, .int v3), (4, .int v4), (5, .int v5)] [] := by
  refine bl_Md_keep_82 hO1 hM hdp (Nat.zero_le _) (Nat.zero_le _) (fun v n' S' I' hv => ?_)
  obtain ⟨e1, e2, hv⟩ := hv
  subst e1
  subst e2
  exact K v I' hv
theorem bp_Md_keep_138 {d : Nat} {B : kv_B} {Q : kv_Q} {kc ks n : Nat} {S : kv_SM} {I : kv_IM} {dc : Nat} {Qv : Option Value → kv_IM → Prop} {a0 : Nat} {v1 : Int32} {v2 : Int32} {v3 : Int32} {v4 : Int32} {v5 : Int32} {v6 : Int32} {v7 : Int32} {r1 : Nat → Option Nat} (hO1 : S a0 = kO 6 r1) (hM : kv_P y_Md_giveUp dc B [.ref a0, .int v2, .int v5, .int v3, .int v4] n S I Qv) (hdp : dc + 1 ≤ d) (K : ∀ v I', Qv v I' → kv_V y_Md_keep d B Q kc ks n S I' 148 [(0, .ref a0), (1, .int v1), (2, .int v2), (3, .int v3), (4, .int v4), (5, .int v5), (6, .int v6), (7, .int v7)] (v.toList ++ [])) : kv_V y_Md_keep d B Q kc ks n S I 138 [(0, .ref a0), (1, .int v1), (2, .int v2), (3, .int v3), (4, .int v4), (5, .int v5), (6, .int v6), (7, .int v7)] [] := by
  refine bl_Md_keep_138 hO1 hM hdp (Nat.zero_le _) (Nat.zero_le _) (fun v n' S' I' hv => ?_)
  obtain ⟨e1, e2, hv⟩ := hv
  subst e1
  subst e2
  exact K v I' hv
theorem bp_Md_find_39 {d : Nat} {B : kv_B} {Q : kv_Q} {kc ks n : Nat} {S : kv_SM} {I : kv_IM} {dc : Nat} {Qv : Option Value → kv_IM → Prop} {a0 : Nat} {v1 : Int32} {v2 : Int32} {v3 : Int32} {v4 : Int32} {r1 : Nat → Option Nat} {q2 : Nat} {q3 : Nat} {m4 : Nat} {j5 : Nat} {q6 : Nat} {q7 : Nat} {m8 : Nat} {j9 : Nat} (hO1 : S a0 = kO 6 r1) (hr2 : r1 14 = some q2) (hr3 : r1 17 = some q3) (hA4 : S q3 = kI m4) (hi5 : v4 = nI j5 ∧ j5 < m4 ∧ m4 < 2 ^ 31) (hr6 : r1 1 = some q6) (hr7 : r1 10 = some q7) (hA8 : S q7 = kI m8) (hi9 : v2 = nI j9 ∧ j9 < m8 ∧ m8 < 2 ^ 31) (hM : kv_P y_Md_isSame dc B [.ref q2, .int (I q3 j5), .ref q6, .int ((1500 * v1) + (I q7 j9)), .int v3] n S I Qv) (hdp : dc + 1 ≤ d) (K : ∀ v I', Qv v I' → kv_V y_Md_find d B Q kc ks n S I' 70 [(0, .ref a0), (1, .int v1), (2, .int v2), (3, .int v3), (4, .int v4)] (v.toList ++ [])) : kv_V y_Md_find d B Q kc ks n S I 39 [(0, .ref a0), (1, .int v1), (2, .int v2), (3, .int v3), (4, .int v4)] [] := by
  refine bl_Md_find_39 hO1 hr2 hr3 hA4 hi5 hr6 hr7 hA8 hi9 hM hdp (Nat.zero_le _) (Nat.zero_le _) (fun v n' S' I' hv => ?_)
  obtain ⟨e1, e2, hv⟩ := hv
  subst e1
  subst e2
  exact K v I' hv
theorem bp_Md_drop_0 {d : Nat} {B : kv_B} {Q : kv_Q} {kc ks n : Nat} {S : kv_SM} {I : kv_IM} {dc : Nat} {Qv : Option Value → kv_IM → Prop} {a0 : Nat} {v1 : Int32} {r1 : Nat → Option Nat} (hO1 : S a0 = kO 6 r1) (hM : kv_P y_Md_isSnapshot dc B [.ref a0, .int v1] n S (kv_up I a0 0 0) Qv) (hdp : dc + 1 ≤ d) (K : ∀ v I', Qv v I' → kv_V y_Md_drop d B Q kc ks n S I' 10 [(0, .ref a0), (1, .int v1)] (v.toList ++ [])) : kv_V y_Md_drop d B Q kc ks n S I 0 [(0, .ref a0), (1, .int v1)] [] := by
  refine bl_Md_drop_0 hO1 hM hdp (Nat.zero_le _) (Nat.zero_le _) (fun v n' S' I' hv => ?_)
  obtain ⟨e1, e2, hv⟩ := hv
  subst e1
  subst e2
  exact K v I' hv
theorem bp_Md_drop_86 {d : Nat} {B : kv_B} {Q : kv_Q} {kc ks n : Nat} {S : kv_SM} {I : kv_IM} {dc : Nat} {Qv : Option Value → kv_IM → Prop} {a0 : Nat} {v1 : Int32} {v2 : Int32} {v3 : Int32} {r1 : Nat → Option Nat} (hO1 : S a0 = kO 6 r1) (hM : kv_P y_Md_takeOut dc B [.ref a0, .int v3] n S I Qv) (hdp : dc + 1 ≤ d) (K : ∀ v I', Qv v I' → kv_V y_Md_drop d B Q kc ks n S I' 91 [(0, .ref a0), (1, .int v1), (2, .int v2), (3, .int v3)] (v.toList ++ [])) : kv_V y_Md_drop d B Q kc ks n S I 86 [(0, .ref a0), (1, .int v1), (2, .int v2), (3, .int v3)] [] := by
  refine bl_Md_drop_86 hO1 hM hdp (Nat.zero_le _) (Nat.zero_le _) (fun v n' S' I' hv => ?_)
  obtain ⟨e1, e2, hv⟩ := hv
  subst e1
  subst e2
  exact K v I' hv
theorem bp_Md_isSnapshot_0 {d : Nat} {B : kv_B} {Q : kv_Q} {kc ks n : Nat} {S : kv_SM} {I : kv_IM} {dc : Nat} {Qv : Option Value → kv_IM → Prop} {a0 : Nat} {v1 : Int32}  (hM : kv_P y_Md_in dc B [.int v1, .int 0, .int 9] n S I Qv) (hdp : dc + 1 ≤ d) (K : ∀ v I', Qv v I' → kv_V y_Md_isSnapshot d B Q kc ks n S I' 7 [(0, .ref a0), (1, .int v1)] (v.toList ++ [])) : kv_V y_Md_isSnapshot d B Q kc ks n S I 0 [(0, .ref a0), (1, .int v1)] [] := by
  refine bl_Md_isSnapshot_0  hM hdp (Nat.zero_le _) (Nat.zero_le _) (fun v n' S' I' hv => ?_)
  obtain ⟨e1, e2, hv⟩ := hv
  subst e1
  subst e2
  exact K v I' hv
theorem bp_Md_restore_0 {d : Nat} {B : kv_B} {Q : kv_Q} {kc ks n : Nat} {S : kv_SM} {I : kv_IM} {dc : Nat} {Qv : Option Value → kv_IM → Prop} {a0 : Nat} {v1 : Int32} {v2 : Int32} {r1 : Nat → Option Nat} (hO1 : S a0 = kO 6 r1) (hM : kv_P y_Md_isSnapshot dc B [.ref a0, .int v1] n S (kv_up I a0 0 0) Qv) (hdp : dc + 1 ≤ d) (K : ∀ v I', Qv v I' → kv_V y_Md_restore d B Q kc ks n S I' 10 [(0, .ref a0), (1, .int v1), (2, .int v2)] (v.toList ++ [])) : kv_V y_Md_restore d B Q kc ks n S I 0 [(0, .ref a0), (1, .int v1), (2, .int v2)] [] := by
  refine bl_Md_restore_0 hO1 hM hdp (Nat.zero_le _) (Nat.zero_le _) (fun v n' S' I' hv => ?_)
  obtain ⟨e1, e2, hv⟩ := hv
  subst e1
  subst e2
  exact K v I' hv
theorem bp_Md_restore_13 {d : Nat} {B : kv_B} {Q : kv_Q} {kc ks n : Nat} {S : kv_SM} {I : kv_IM} {dc : Nat} {Qv : Option Value → kv_IM → Prop} {a0 : Nat} {v1 : Int32} {v2 : Int32}  (hM : kv_P y_Md_isText dc B [.int v2] n S I Qv) (hdp : dc + 1 ≤ d) (K : ∀ v I', Qv v I' → kv_V y_Md_restore d B Q kc ks n S I' 17 [(0, .ref a0), (1, .int v1), (2, .int v2)] (v.toList ++ [])) : kv_V y_Md_restore d B Q kc ks n S I 13 [(0, .ref a0), (1, .int v1), (2, .int v2)] [] := by
  refine bl_Md_restore_13  hM hdp (Nat.zero_le _) (Nat.zero_le _) (fun v n' S' I' hv => ?_)
  obtain ⟨e1, e2, hv⟩ := hv
  subst e1
  subst e2
  exact K v I' hv
theorem bp_Md_told_0 {d : Nat} {B : kv_B} {Q : kv_Q} {kc ks n : Nat} {S : kv_SM} {I : kv_IM} {dc : Nat} {Qv : Option Value → kv_IM → Prop} {a0 : Nat} {v1 : Int32} {v2 : Int32} {r1 : Nat → Option Nat} (hO1 : S a0 = kO 6 r1) (hM : kv_P y_Md_isSnapshot dc B [.ref a0, .int v1] n S (kv_up I a0 0 0) Qv) (hdp : dc + 1 ≤ d) (K : ∀ v I', Qv v I' → kv_V y_Md_told d B Q kc ks n S I' 10 [(0, .ref a0), (1, .int v1), (2, .int v2)] (v.toList ++ [])) : kv_V y_Md_told d B Q kc ks n S I 0 [(0, .ref a0), (1, .int v1), (2, .int v2)] [] := by
  refine bl_Md_told_0 hO1 hM hdp (Nat.zero_le _) (Nat.zero_le _) (fun v n' S' I' hv => ?_)
  obtain ⟨e1, e2, hv⟩ := hv
  subst e1
  subst e2
  exact K v I' hv
theorem bp_Md_told_13 {d : Nat} {B : kv_B} {Q : kv_Q} {kc ks n : Nat} {S : kv_SM} {I : kv_IM} {dc : Nat} {Qv : Option Value → kv_IM → Prop} {a0 : Nat} {v1 : Int32} {v2 : Int32}  (hM : kv_P y_Md_in dc B [.int v2, .int 0, .int 1] n S I Qv) (hdp : dc + 1 ≤ d) (K : ∀ v I', Qv v I' → kv_V y_Md_told d B Q kc ks n S I' 19 [(0, .ref a0), (1, .int v1), (2, .int v2)] (v.toList ++ [])) : kv_V y_Md_told d B Q kc ks n S I 13 [(0, .ref a0), (1, .int v1), (2, .int v2)] [] := by
  refine bl_Md_told_13  hM hdp (Nat.zero_le _) (Nat.zero_le _) (fun v n' S' I' hv => ?_)
  obtain ⟨e1, e2, hv⟩ := hv
  subst e1
  subst e2
  exact K v I' hv
theorem bp_Md_told_37 {d : Nat} {B : kv_B} {Q : kv_Q} {kc ks n : Nat} {S : kv_SM} {I : kv_IM} {dc : Nat} {Qv : Option Value → kv_IM → Prop} {a0 : Nat} {v1 : Int32} {v2 : Int32} {r1 : Nat → Option Nat} (hO1 : S a0 = kO 6 r1) (hM : kv_P y_Md_bytesOf dc B [.ref a0, .int v1] n S I Qv) (hdp : dc + 1 ≤ d) (K : ∀ v I', Qv v I' → kv_V y_Md_told d B Q kc ks n S I' 42 [(0, .ref a0), (1, .int v1), (2, .int v2)] (v.toList ++ [])) : kv_V y_Md_told d B Q kc ks n S I 37 [(0, .ref a0), (1, .int v1), (2, .int v2)] [] := by
  refine bl_Md_told_37 hO1 hM hdp (Nat.zero_le _) (Nat.zero_le _) (fun v n' S' I' hv => ?_)
  obtain ⟨e1, e2, hv⟩ := hv
  subst e1
  subst e2
  exact K v I' hv
theorem bp_Md_uses_0 {d : Nat} {B : kv_B} {Q : kv_Q} {kc ks n : Nat} {S : kv_SM} {I : kv_IM} {dc : Nat} {Qv : Option Value → kv_IM → Prop} {a0 : Nat} {v1 : Int32} {v2 : Int32} {r1 : Nat → Option Nat} (hO1 : S a0 = kO 6 r1) (hM : kv_P y_Md_isBlock dc B [.ref a0, .int v1, .int v2] n S (kv_up I a0 0 0) Qv) (hdp : dc + 1 ≤ d) (K : ∀ v I', Qv v I' → kv_V y_Md_uses d B Q kc ks n S I' 11 [(0, .ref a0), (1, .int v1), (2, .int v2)] (v.toList ++ [])) : kv_V y_Md_uses d B Q kc ks n S I 0 [(0, .ref a0), (1, .int v1), (2, .int v2)] [] := by
  refine bl_Md_uses_0 hO1 hM hdp (Nat.zero_le _) (Nat.zero_le _) (fun v n' S' I' hv => ?_)
  obtain ⟨e1, e2, hv⟩ := hv
  subst e1
  subst e2
  exact K v I' hv
theorem bp_Md_uses_16 {d : Nat} {B : kv_B} {Q : kv_Q} {kc ks n : Nat} {S : kv_SM} {I : kv_IM} {dc : Nat} {Qv : Option Value → kv_IM → Prop} {a0 : Nat} {v1 : Int32} {v2 : Int32} {r1 : Nat → Option Nat} (hO1 : S a0 = kO 6 r1) (hM : kv_P y_Md_find dc B [.ref a0, .int v1, .int v2] n S I Qv) (hdp : dc + 1 ≤ d) (K : ∀ v I', Qv v I' → kv_V y_Md_uses d B Q kc ks n S I' 22 [(0, .ref a0), (1, .int v1), (2, .int v2)] (v.toList ++ [])) : kv_V y_Md_uses d B Q kc ks n S I 16 [(0, .ref a0), (1, .int v1), (2, .int v2)] [] := by
  refine bl_Md_uses_16 hO1 hM hdp (Nat.zero_le _) (Nat.zero_le _) (fun v n' S' I' hv => ?_)
  obtain ⟨e1, e2, hv⟩ := hv
  subst e1
  subst e2
  exact K v I' hv
theorem bp_Md_kept_118 {d : Nat} {B : kv_B} {Q : kv_Q} {kc ks n : Nat} {S : kv_SM} {I : kv_IM} {dc : Nat} {Qv : Option Value → kv_IM → Prop} {a0 : Nat} {v1 : Int32} {v2 : Int32} {r1 : Nat → Option Nat} (hO1 : S a0 = kO 6 r1) (hM : kv_P y_Md_keysTold dc B [.ref a0, .int 1] n S I Qv) (hdp : dc + 1 ≤ d) (K : ∀ v I', Qv v I' → kv_V y_Md_kept d B Q kc ks n S I' 123 [(0, .ref a0), (1, .int v1), (2, .int v2)] (v.toList ++ [])) : kv_V y_Md_kept d B Q kc ks n S I 118 [(0, .ref a0), (1, .int v1), (2, .int v2)] [] := by
  refine bl_Md_kept_118 hO1 hM hdp (Nat.zero_le _) (Nat.zero_le _) (fun v n' S' I' hv => ?_)
  obtain ⟨e1, e2, hv⟩ := hv
  subst e1
  subst e2
  exact K v I' hv
theorem bp_Md_kept_124 {d : Nat} {B : kv_B} {Q : kv_Q} {kc ks n : Nat} {S : kv_SM} {I : kv_IM} {dc : Nat} {Qv : Option Value → kv_IM → Prop} {a0 : Nat} {v1 : Int32} {v2 : Int32} {r1 : Nat → Option Nat} (hO1 : S a0 = kO 6 r1) (hM : kv_P y_Md_keysTold dc B [.ref a0, .int 0] n S I Qv) (hdp : dc + 1 ≤ d) (K : ∀ v I', Qv v I' → kv_V y_Md_kept d B Q kc ks n S I' 129 [(0, .ref a0), (1, .int v1), (2, .int v2)] (v.toList ++ [])) : kv_V y_Md_kept d B Q kc ks n S I 124 [(0, .ref a0), (1, .int v1), (2, .int v2)] [] := by
  refine bl_Md_kept_124 hO1 hM hdp (Nat.zero_le _) (Nat.zero_le _) (fun v n' S' I' hv => ?_)
  obtain ⟨e1, e2, hv⟩ := hv
  subst e1
  subst e2
  exact K v I' hv
theorem bp_Md_keysTold_38 {d : Nat} {B : kv_B} {Q : kv_Q} {kc ks n : Nat} {S : kv_SM} {I : kv_IM} {dc : Nat} {Qv : Option Value → kv_IM → Prop} {a0 : Nat} {v1 : Int32} {v2 : Int32} {v3 : Int32} {v4 : Int32} {r1 : Nat → Option Nat} (hO1 : S a0 = kO 6 r1) (hM : kv_P y_Md_keyOf dc B [.ref a0, .int v4] n S I Qv) (hdp : dc + 1 ≤ d) (K : ∀ v I', Qv v I' → kv_V y_Md_keysTold d B Q kc ks n S I' 44 [(0, .ref a0), (1, .int v1), (2, .int v2), (3, .int v3), (4, .int v4)] (v.toList ++ [])) : kv_V y_Md_keysTold d B Q kc ks n S I 38 [(0, .ref a0), (1, .int v1), (2, .int v2), (3, .int v3), (4, .int v4)] [] := by
  refine bl_Md_keysTold_38 hO1 hM hdp (Nat.zero_le _) (Nat.zero_le _) (fun v n' S' I' hv => ?_)
  obtain ⟨e1, e2, hv⟩ := hv
  subst e1
  subst e2
  exact K v I' hv
theorem bp_Md_keyOf_0 {d : Nat} {B : kv_B} {Q : kv_Q} {kc ks n : Nat} {S : kv_SM} {I : kv_IM} {dc : Nat} {Qv : Option Value → kv_IM → Prop} {a0 : Nat} {v1 : Int32} {r1 : Nat → Option Nat} {q2 : Nat} {q3 : Nat} {m4 : Nat} {j5 : Nat} {q6 : Nat} {m7 : Nat} {j8 : Nat} (hO1 : S a0 = kO 6 r1) (hr2 : r1 14 = some q2) (hr3 : r1 17 = some q3) (hA4 : S q3 = kI m4) (hi5 : v1 = nI j5 ∧ j5 < m4 ∧ m4 < 2 ^ 31) (hr6 : r1 18 = some q6) (hA7 : S q6 = kI m7) (hi8 : v1 = nI j8 ∧ j8 < m7 ∧ m7 < 2 ^ 31) (hM : kv_P y_Md_digestOf dc B [.ref q2, .int (I q3 j5), .int ((I q3 j5) + (I q6 j8)), .int 0] n S I Qv) (hdp : dc + 1 ≤ d) (K : ∀ v I', Qv v I' → kv_V y_Md_keyOf d B Q kc ks n S I' 27 [(0, .ref a0), (1, .int v1)] (v.toList ++ [])) : kv_V y_Md_keyOf d B Q kc ks n S I 0 [(0, .ref a0), (1, .int v1)] [] := by
  refine bl_Md_keyOf_0 hO1 hr2 hr3 hA4 hi5 hr6 hA7 hi8 hM hdp (Nat.zero_le _) (Nat.zero_le _) (fun v n' S' I' hv => ?_)
  obtain ⟨e1, e2, hv⟩ := hv
  subst e1
  subst e2
  exact K v I' hv
theorem bp_Law_law_128 {d : Nat} {B : kv_B} {Q : kv_Q} {kc ks n : Nat} {S : kv_SM} {I : kv_IM} {dc : Nat} {Qv : Option Value → kv_IM → Prop} {a1 : Nat} {a2 : Nat} {v3 : Int32} {j1 : Nat} {r2 : Nat → Option Nat} (hi1 : v3 + 1 = nI j1 ∧ j1 < B.2.2.1 ∧ B.2.2.1 < 2 ^ 31) (hO2 : S a1 = kO 5 r2) (hM : kv_P y_Cb_seed dc B [.ref a1, .int (B.2.2.2 j1)] n S I Qv) (hdp : dc + 1 ≤ d) (K : ∀ v I', Qv v I' → kv_V y_Law_law d B Q kc ks n S I' 137 [(0, .ref B.2.1), (1, .ref a1), (2, .ref a2), (3, .int v3)] (v.toList ++ [])) : kv_V y_Law_law d B Q kc ks n S I 128 [(0, .ref B.2.1), (1, .ref a1), (2, .ref a2), (3, .int v3)] [] := by
  refine bl_Law_law_128 hi1 hO2 hM hdp (Nat.zero_le _) (Nat.zero_le _) (fun v n' S' I' hv => ?_)
  obtain ⟨e1, e2, hv⟩ := hv
  subst e1
  subst e2
  exact K v I' hv
theorem bp_Law_law_137 {d : Nat} {B : kv_B} {Q : kv_Q} {kc ks n : Nat} {S : kv_SM} {I : kv_IM} {dc : Nat} {Qv : Option Value → kv_IM → Prop} {a1 : Nat} {a2 : Nat} {v3 : Int32} {t0 : Int32} {j1 : Nat} {r2 : Nat → Option Nat} (hi1 : v3 + 1 = nI j1 ∧ j1 < B.2.2.1 ∧ B.2.2.1 < 2 ^ 31) (hO2 : S a2 = kO 6 r2) (hM : kv_P y_Md_seed dc B [.ref a2, .int (B.2.2.2 j1)] n S I Qv) (hdp : dc + 1 ≤ d) (K : ∀ v I', Qv v I' → kv_V y_Law_law d B Q kc ks n S I' 146 [(0, .ref B.2.1), (1, .ref a1), (2, .ref a2), (3, .int v3)] (v.toList ++ [.int t0])) : kv_V y_Law_law d B Q kc ks n S I 137 [(0, .ref B.2.1), (1, .ref a1), (2, .ref a2), (3, .int v3)] [.int t0] := by
  refine bl_Law_law_137 hi1 hO2 hM hdp (Nat.zero_le _) (Nat.zero_le _) (fun v n' S' I' hv => ?_)
  obtain ⟨e1, e2, hv⟩ := hv
  subst e1
  subst e2
  exact K v I' hv
theorem bp_Law_law_151 {d : Nat} {B : kv_B} {Q : kv_Q} {kc ks n : Nat} {S : kv_SM} {I : kv_IM} {dc : Nat} {Qv : Option Value → kv_IM → Prop} {a1 : Nat} {a2 : Nat} {v3 : Int32} {j1 : Nat} {j2 : Nat} {j3 : Nat} {j4 : Nat} {j5 : Nat} {j6 : Nat} {r7 : Nat → Option Nat} (hi1 : v3 + 1 = nI j1 ∧ j1 < B.2.2.1 ∧ B.2.2.1 < 2 ^ 31) (hi2 : v3 + 2 = nI j2 ∧ j2 < B.2.2.1 ∧ B.2.2.1 < 2 ^ 31) (hi3 : v3 + 3 = nI j3 ∧ j3 < B.2.2.1 ∧ B.2.2.1 < 2 ^ 31) (hi4 : v3 + 4 = nI j4 ∧ j4 < B.2.2.1 ∧ B.2.2.1 < 2 ^ 31) (hi5 : v3 + 5 = nI j5 ∧ j5 < B.2.2.1 ∧ B.2.2.1 < 2 ^ 31) (hi6 : v3 + 6 = nI j6 ∧ j6 < B.2.2.1 ∧ B.2.2.1 < 2 ^ 31) (hO7 : S a1 = kO 5 r7) (hM : kv_P y_Cb_rule dc B [.ref a1, .int (B.2.2.2 j1), .int (B.2.2.2 j2), .int (B.2.2.2 j3), .int (B.2.2.2 j4), .int (B.2.2.2 j5), .int (B.2.2.2 j6)] n S I Qv) (hdp : dc + 1 ≤ d) (K : ∀ v I', Qv v I' → kv_V y_Law_law d B Q kc ks n S I' 186 [(0, .ref B.2.1), (1, .ref a1), (2, .ref a2), (3, .int v3)] (v.toList ++ [])) : kv_V y_Law_law d B Q kc ks n S I 151 [(0, .ref B.2.1), (1, .ref a1), (2, .ref a2), (3, .int v3)] [] := by
  refine bl_Law_law_151 hi1 hi2 hi3 hi4 hi5 hi6 hO7 hM hdp (Nat.zero_le _) (Nat.zero_le _) (fun v n' S' I' hv => ?_)
  obtain ⟨e1, e2, hv⟩ := hv
  subst e1
  subst e2
  exact K v I' hv
theorem bp_Law_law_186 {d : Nat} {B : kv_B} {Q : kv_Q} {kc ks n : Nat} {S : kv_SM} {I : kv_IM} {dc : Nat} {Qv : Option Value → kv_IM → Prop} {a1 : Nat} {a2 : Nat} {v3 : Int32} {t0 : Int32} {j1 : Nat} {j2 : Nat} {j3 : Nat} {j4 : Nat} {j5 : Nat} {j6 : Nat} {r7 : Nat → Option Nat} (hi1 : v3 + 1 = nI j1 ∧ j1 < B.2.2.1 ∧ B.2.2.1 < 2 ^ 31) (hi2 : v3 + 2 = nI j2 ∧ j2 < B.2.2.1 ∧ B.2.2.1 < 2 ^ 31) (hi3 : v3 + 3 = nI j3 ∧ j3 < B.2.2.1 ∧ B.2.2.1 < 2 ^ 31) (hi4 : v3 + 4 = nI j4 ∧ j4 < B.2.2.1 ∧ B.2.2.1 < 2 ^ 31) (hi5 : v3 + 5 = nI j5 ∧ j5 < B.2.2.1 ∧ B.2.2.1 < 2 ^ 31) (hi6 : v3 + 6 = nI j6 ∧ j6 < B.2.2.1 ∧ B.2.2.1 < 2 ^ 31) (hO7 : S a2 = kO 6 r7) (hM : kv_P y_Md_rule dc B [.ref a2, .int (B.2.2.2 j1), .int (B.2.2.2 j2), .int (B.2.2.2 j3), .int (B.2.2.2 j4), .int (B.2.2.2 j5), .int (B.2.2.2 j6)] n S I Qv) (hdp : dc + 1 ≤ d) (K : ∀ v I', Qv v I' → kv_V y_Law_law d B Q kc ks n S I' 221 [(0, .ref B.2.1), (1, .ref a1), (2, .ref a2), (3, .int v3)] (v.toList ++ [.int t0])) : kv_V y_Law_law d B Q kc ks n S I 186 [(0, .ref B.2.1), (1, .ref a1), (2, .ref a2), (3, .int v3)] [.int t0] := by
  refine bl_Law_law_186 hi1 hi2 hi3 hi4 hi5 hi6 hO7 hM hdp (Nat.zero_le _) (Nat.zero_le _) (fun v n' S' I' hv => ?_)
  obtain ⟨e1, e2, hv⟩ := hv
  subst e1
  subst e2
  exact K v I' hv
theorem bp_Law_law_226 {d : Nat} {B : kv_B} {Q : kv_Q} {kc ks n : Nat} {S : kv_SM} {I : kv_IM} {dc : Nat} {Qv : Option Value → kv_IM → Prop} {a1 : Nat} {a2 : Nat} {v3 : Int32} {j1 : Nat} {j2 : Nat} {r3 : Nat → Option Nat} (hi1 : v3 + 1 = nI j1 ∧ j1 < B.2.2.1 ∧ B.2.2.1 < 2 ^ 31) (hi2 : v3 + 2 = nI j2 ∧ j2 < B.2.2.1 ∧ B.2.2.1 < 2 ^ 31) (hO3 : S a1 = kO 5 r3) (hM : kv_P y_Cb_add dc B [.ref a1, .int (B.2.2.2 j1), .int (B.2.2.2 j2)] n S I Qv) (hdp : dc + 1 ≤ d) (K : ∀ v I', Qv v I' → kv_V y_Law_law d B Q kc ks n S I' 240 [(0, .ref B.2.1), (1, .ref a1), (2, .ref a2), (3, .int v3)] (v.toList ++ [])) : kv_V y_Law_law d B Q kc ks n S I 226 [(0, .ref B.2.1), (1, .ref a1), (2, .ref a2), (3, .int v3)] [] := by
  refine bl_Law_law_226 hi1 hi2 hO3 hM hdp (Nat.zero_le _) (Nat.zero_le _) (fun v n' S' I' hv => ?_)
  obtain ⟨e1, e2, hv⟩ := hv
  subst e1
  subst e2
  exact K v I' hv
theorem bp_Law_law_240 {d : Nat} {B : kv_B} {Q : kv_Q} {kc ks n : Nat} {S : kv_SM} {I : kv_IM} {dc : Nat} {Qv : Option Value → kv_IM → Prop} {a1 : Nat} {a2 : Nat} {v3 : Int32} {t0 : Int32} {j1 : Nat} {j2 : Nat} {r3 : Nat → Option Nat} (hi1 : v3 + 1 = nI j1 ∧ j1 < B.2.2.1 ∧ B.2.2.1 < 2 ^ 31) (hi2 : v3 + 2 = nI j2 ∧ j2 < B.2.2.1 ∧ B.2.2.1 < 2 ^ 31) (hO3 : S a2 = kO 6 r3) (hM : kv_P y_Md_add dc B [.ref a2, .int (B.2.2.2 j1), .int (B.2.2.2 j2)] n S I Qv) (hdp : dc + 1 ≤ d) (K : ∀ v I', Qv v I' → kv_V y_Law_law d B Q kc ks n S I' 254 [(0, .ref B.2.1), (1, .ref a1), (2, .ref a2), (3, .int v3)] (v.toList ++ [.int t0])) : kv_V y_Law_law d B Q kc ks n S I 240 [(0, .ref B.2.1), (1, .ref a1), (2, .ref a2), (3, .int v3)] [.int t0] := by
  refine bl_Law_law_240 hi1 hi2 hO3 hM hdp (Nat.zero_le _) (Nat.zero_le _) (fun v n' S' I' hv => ?_)
  obtain ⟨e1, e2, hv⟩ := hv
  subst e1
  subst e2
  exact K v I' hv
theorem bp_Law_law_259 {d : Nat} {B : kv_B} {Q : kv_Q} {kc ks n : Nat} {S : kv_SM} {I : kv_IM} {dc : Nat} {Qv : Option Value → kv_IM → Prop} {a1 : Nat} {a2 : Nat} {v3 : Int32} {j1 : Nat} {j2 : Nat} {j3 : Nat} {j4 : Nat} {r5 : Nat → Option Nat} (hi1 : v3 + 1 = nI j1 ∧ j1 < B.2.2.1 ∧ B.2.2.1 < 2 ^ 31) (hi2 : v3 + 2 = nI j2 ∧ j2 < B.2.2.1 ∧ B.2.2.1 < 2 ^ 31) (hi3 : v3 + 3 = nI j3 ∧ j3 < B.2.2.1 ∧ B.2.2.1 < 2 ^ 31) (hi4 : v3 + 4 = nI j4 ∧ j4 < B.2.2.1 ∧ B.2.2.1 < 2 ^ 31) (hO5 : S a1 = kO 5 r5) (hM : kv_P y_Cb_fill dc B [.ref a1, .int (B.2.2.2 j1), .int (B.2.2.2 j2), .int (B.2.2.2 j3), .int (B.2.2.2 j4)] n S I Qv) (hdp : dc + 1 ≤ d) (K : ∀ v I', Qv v I' → kv_V y_Law_law d B Q kc ks n S I' 283 [(0, .ref B.2.1), (1, .ref a1), (2, .ref a2), (3, .int v3)] (v.toList ++ [])) : kv_V y_Law_law d B Q kc ks n S I 259 [(0, .ref B.2.1), (1, .ref a1), (2, .ref a2), (3, .int v3)] [] := by
  refine bl_Law_law_259 hi1 hi2 hi3 hi4 hO5 hM hdp (Nat.zero_le _) (Nat.zero_le _) (fun v n' S' I' hv => ?_)
  obtain ⟨e1, e2, hv⟩ := hv
  subst e1
  subst e2
  exact K v I' hv
theorem bp_Law_law_283 {d : Nat} {B : kv_B} {Q : kv_Q} {kc ks n : Nat} {S : kv_SM} {I : kv_IM} {dc : Nat} {Qv : Option Value → kv_IM → Prop} {a1 : Nat} {a2 : Nat} {v3 : Int32} {t0 : Int32} {j1 : Nat} {j2 : Nat} {j3 : Nat} {j4 : Nat} {r5 : Nat → Option Nat} (hi1 : v3 + 1 = nI j1 ∧ j1 < B.2.2.1 ∧ B.2.2.1 < 2 ^ 31) (hi2 : v3 + 2 = nI j2 ∧ j2 < B.2.2.1 ∧ B.2.2.1 < 2 ^ 31) (hi3 : v3 + 3 = nI j3 ∧ j3 < B.2.2.1 ∧ B.2.2.1 < 2 ^ 31) (hi4 : v3 + 4 = nI j4 ∧ j4 < B.2.2.1 ∧ B.2.2.1 < 2 ^ 31) (hO5 : S a2 = kO 6 r5) (hM : kv_P y_Md_fill dc B [.ref a2, .int (B.2.2.2 j1), .int (B.2.2.2 j2), .int (B.2.2.2 j3), .int (B.2.2.2 j4)] n S I Qv) (hdp : dc + 1 ≤ d) (K : ∀ v I', Qv v I' → kv_V y_Law_law d B Q kc ks n S I' 307 [(0, .ref B.2.1), (1, .ref a1), (2, .ref a2), (3, .int v3)] (v.toList ++ [.int t0])) : kv_V y_Law_law d B Q kc ks n S I 283 [(0, .ref B.2.1), (1, .ref a1), (2, .ref a2), (3, .int v3)] [.int t0] := by
  refine bl_Law_law_283 hi1 hi2 hi3 hi4 hO5 hM hdp (Nat.zero_le _) (Nat.zero_le _) (fun v n' S' I' hv => ?_)
  obtain ⟨e1, e2, hv⟩ := hv
  subst e1
  subst e2
  exact K v I' hv
theorem bp_Law_law_312 {d : Nat} {B : kv_B} {Q : kv_Q} {kc ks n : Nat} {S : kv_SM} {I : kv_IM} {dc : Nat} {Qv : Option Value → kv_IM → Prop} {a1 : Nat} {a2 : Nat} {v3 : Int32} {j1 : Nat} {j2 : Nat} {j3 : Nat} {r4 : Nat → Option Nat} (hi1 : v3 + 1 = nI j1 ∧ j1 < B.2.2.1 ∧ B.2.2.1 < 2 ^ 31) (hi2 : v3 + 2 = nI j2 ∧ j2 < B.2.2.1 ∧ B.2.2.1 < 2 ^ 31) (hi3 : v3 + 3 = nI j3 ∧ j3 < B.2.2.1 ∧ B.2.2.1 < 2 ^ 31) (hO4 : S a1 = kO 5 r4) (hM : kv_P y_Cb_insert dc B [.ref a1, .int (B.2.2.2 j1), .int (B.2.2.2 j2), .int (B.2.2.2 j3)] n S I Qv) (hdp : dc + 1 ≤ d) (K : ∀ v I', Qv v I' → kv_V y_Law_law d B Q kc ks n S I' 331 [(0, .ref B.2.1), (1, .ref a1), (2, .ref a2), (3, .int v3)] (v.toList ++ [])) : kv_V y_Law_law d B Q kc ks n S I 312 [(0, .ref B.2.1), (1, .ref a1), (2, .ref a2), (3, .int v3)] [] := by
  refine bl_Law_law_312 hi1 hi2 hi3 hO4 hM hdp (Nat.zero_le _) (Nat.zero_le _) (fun v n' S' I' hv => ?_)
  obtain ⟨e1, e2, hv⟩ := hv
  subst e1
  subst e2
  exact K v I' hv
theorem bp_Law_law_331 {d : Nat} {B : kv_B} {Q : kv_Q} {kc ks n : Nat} {S : kv_SM} {I : kv_IM} {dc : Nat} {Qv : Option Value → kv_IM → Prop} {a1 : Nat} {a2 : Nat} {v3 : Int32} {t0 : Int32} {j1 : Nat} {j2 : Nat} {j3 : Nat} {r4 : Nat → Option Nat} (hi1 : v3 + 1 = nI j1 ∧ j1 < B.2.2.1 ∧ B.2.2.1 < 2 ^ 31) (hi2 : v3 + 2 = nI j2 ∧ j2 < B.2.2.1 ∧ B.2.2.1 < 2 ^ 31) (hi3 : v3 + 3 = nI j3 ∧ j3 < B.2.2.1 ∧ B.2.2.1 < 2 ^ 31) (hO4 : S a2 = kO 6 r4) (hM : kv_P y_Md_insert dc B [.ref a2, .int (B.2.2.2 j1), .int (B.2.2.2 j2), .int (B.2.2.2 j3)] n S I Qv) (hdp : dc + 1 ≤ d) (K : ∀ v I', Qv v I' → kv_V y_Law_law d B Q kc ks n S I' 350 [(0, .ref B.2.1), (1, .ref a1), (2, .ref a2), (3, .int v3)] (v.toList ++ [.int t0])) : kv_V y_Law_law d B Q kc ks n S I 331 [(0, .ref B.2.1), (1, .ref a1), (2, .ref a2), (3, .int v3)] [.int t0] := by
  refine bl_Law_law_331 hi1 hi2 hi3 hO4 hM hdp (Nat.zero_le _) (Nat.zero_le _) (fun v n' S' I' hv => ?_)
  obtain ⟨e1, e2, hv⟩ := hv
  subst e1
  subst e2
  exact K v I' hv
theorem bp_Law_law_355 {d : Nat} {B : kv_B} {Q : kv_Q} {kc ks n : Nat} {S : kv_SM} {I : kv_IM} {dc : Nat} {Qv : Option Value → kv_IM → Prop} {a1 : Nat} {a2 : Nat} {v3 : Int32} {j1 : Nat} {j2 : Nat} {j3 : Nat} {r4 : Nat → Option Nat} (hi1 : v3 + 1 = nI j1 ∧ j1 < B.2.2.1 ∧ B.2.2.1 < 2 ^ 31) (hi2 : v3 + 2 = nI j2 ∧ j2 < B.2.2.1 ∧ B.2.2.1 < 2 ^ 31) (hi3 : v3 + 3 = nI j3 ∧ j3 < B.2.2.1 ∧ B.2.2.1 < 2 ^ 31) (hO4 : S a1 = kO 5 r4) (hM : kv_P y_Cb_remove dc B [.ref a1, .int (B.2.2.2 j1), .int (B.2.2.2 j2), .int (B.2.2.2 j3)] n S I Qv) (hdp : dc + 1 ≤ d) (K : ∀ v I', Qv v I' → kv_V y_Law_law d B Q kc ks n S I' 374 [(0, .ref B.2.1), (1, .ref a1), (2, .ref a2), (3, .int v3)] (v.toList ++ [])) : kv_V y_Law_law d B Q kc ks n S I 355 [(0, .ref B.2.1), (1, .ref a1), (2, .ref a2), (3, .int v3)] [] := by
  refine bl_Law_law_355 hi1 hi2 hi3 hO4 hM hdp (Nat.zero_le _) (Nat.zero_le _) (fun v n' S' I' hv => ?_)
  obtain ⟨e1, e2, hv⟩ := hv
  subst e1
  subst e2
  exact K v I' hv
theorem bp_Law_law_374 {d : Nat} {B : kv_B} {Q : kv_Q} {kc ks n : Nat} {S : kv_SM} {I : kv_IM} {dc : Nat} {Qv : Option Value → kv_IM → Prop} {a1 : Nat} {a2 : Nat} {v3 : Int32} {t0 : Int32} {j1 : Nat} {j2 : Nat} {j3 : Nat} {r4 : Nat → Option Nat} (hi1 : v3 + 1 = nI j1 ∧ j1 < B.2.2.1 ∧ B.2.2.1 < 2 ^ 31) (hi2 : v3 + 2 = nI j2 ∧ j2 < B.2.2.1 ∧ B.2.2.1 < 2 ^ 31) (hi3 : v3 + 3 = nI j3 ∧ j3 < B.2.2.1 ∧ B.2.2.1 < 2 ^ 31) (hO4 : S a2 = kO 6 r4) (hM : kv_P y_Md_remove dc B [.ref a2, .int (B.2.2.2 j1), .int (B.2.2.2 j2), .int (B.2.2.2 j3)] n S I Qv) (hdp : dc + 1 ≤ d) (K : ∀ v I', Qv v I' → kv_V y_Law_law d B Q kc ks n S I' 393 [(0, .ref B.2.1), (1, .ref a1), (2, .ref a2), (3, .int v3)] (v.toList ++ [.int t0])) : kv_V y_Law_law d B Q kc ks n S I 374 [(0, .ref B.2.1), (1, .ref a1), (2, .ref a2), (3, .int v3)] [.int t0] := by
  refine bl_Law_law_374 hi1 hi2 hi3 hO4 hM hdp (Nat.zero_le _) (Nat.zero_le _) (fun v n' S' I' hv => ?_)
  obtain ⟨e1, e2, hv⟩ := hv
  subst e1
  subst e2
  exact K v I' hv
theorem bp_Law_law_398 {d : Nat} {B : kv_B} {Q : kv_Q} {kc ks n : Nat} {S : kv_SM} {I : kv_IM} {dc : Nat} {Qv : Option Value → kv_IM → Prop} {a1 : Nat} {a2 : Nat} {v3 : Int32} {j1 : Nat} {j2 : Nat} {r3 : Nat → Option Nat} (hi1 : v3 + 1 = nI j1 ∧ j1 < B.2.2.1 ∧ B.2.2.1 < 2 ^ 31) (hi2 : v3 + 2 = nI j2 ∧ j2 < B.2.2.1 ∧ B.2.2.1 < 2 ^ 31) (hO3 : S a1 = kO 5 r3) (hM : kv_P y_Cb_copy dc B [.ref a1, .int (B.2.2.2 j1), .int (B.2.2.2 j2)] n S I Qv) (hdp : dc + 1 ≤ d) (K : ∀ v I', Qv v I' → kv_V y_Law_law d B Q kc ks n S I' 412 [(0, .ref B.2.1), (1, .ref a1), (2, .ref a2), (3, .int v3)] (v.toList ++ [])) : kv_V y_Law_law d B Q kc ks n S I 398 [(0, .ref B.2.1), (1, .ref a1), (2, .ref a2), (3, .int v3)] [] := by
  refine bl_Law_law_398 hi1 hi2 hO3 hM hdp (Nat.zero_le _) (Nat.zero_le _) (fun v n' S' I' hv => ?_)
  obtain ⟨e1, e2, hv⟩ := hv
  subst e1
  subst e2
  exact K v I' hv
theorem bp_Law_law_412 {d : Nat} {B : kv_B} {Q : kv_Q} {kc ks n : Nat} {S : kv_SM} {I : kv_IM} {dc : Nat} {Qv : Option Value → kv_IM → Prop} {a1 : Nat} {a2 : Nat} {v3 : Int32} {t0 : Int32} {j1 : Nat} {j2 : Nat} {r3 : Nat → Option Nat} (hi1 : v3 + 1 = nI j1 ∧ j1 < B.2.2.1 ∧ B.2.2.1 < 2 ^ 31) (hi2 : v3 + 2 = nI j2 ∧ j2 < B.2.2.1 ∧ B.2.2.1 < 2 ^ 31) (hO3 : S a2 = kO 6 r3) (hM : kv_P y_Md_copy dc B [.ref a2, .int (B.2.2.2 j1), .int (B.2.2.2 j2)] n S I Qv) (hdp : dc + 1 ≤ d) (K : ∀ v I', Qv v I' → kv_V y_Law_law d B Q kc ks n S I' 426 [(0, .ref B.2.1), (1, .ref a1), (2, .ref a2), (3, .int v3)] (v.toList ++ [.int t0])) : kv_V y_Law_law d B Q kc ks n S I 412 [(0, .ref B.2.1), (1, .ref a1), (2, .ref a2), (3, .int v3)] [.int t0] := by
  refine bl_Law_law_412 hi1 hi2 hO3 hM hdp (Nat.zero_le _) (Nat.zero_le _) (fun v n' S' I' hv => ?_)
  obtain ⟨e1, e2, hv⟩ := hv
  subst e1
  subst e2
  exact K v I' hv
theorem bp_Law_law_431 {d : Nat} {B : kv_B} {Q : kv_Q} {kc ks n : Nat} {S : kv_SM} {I : kv_IM} {dc : Nat} {Qv : Option Value → kv_IM → Prop} {a1 : Nat} {a2 : Nat} {v3 : Int32} {j1 : Nat} {r2 : Nat → Option Nat} (hi1 : v3 + 1 = nI j1 ∧ j1 < B.2.2.1 ∧ B.2.2.1 < 2 ^ 31) (hO2 : S a1 = kO 5 r2) (hM : kv_P y_Cb_size dc B [.ref a1, .int (B.2.2.2 j1)] n S I Qv) (hdp : dc + 1 ≤ d) (K : ∀ v I', Qv v I' → kv_V y_Law_law d B Q kc ks n S I' 440 [(0, .ref B.2.1), (1, .ref a1), (2, .ref a2), (3, .int v3)] (v.toList ++ [])) : kv_V y_Law_law d B Q kc ks n S I 431 [(0, .ref B.2.1), (1, .ref a1), (2, .ref a2), (3, .int v3)] [] := by
  refine bl_Law_law_431 hi1 hO2 hM hdp (Nat.zero_le _) (Nat.zero_le _) (fun v n' S' I' hv => ?_)
  obtain ⟨e1, e2, hv⟩ := hv
  subst e1
  subst e2
  exact K v I' hv
theorem bp_Law_law_440 {d : Nat} {B : kv_B} {Q : kv_Q} {kc ks n : Nat} {S : kv_SM} {I : kv_IM} {dc : Nat} {Qv : Option Value → kv_IM → Prop} {a1 : Nat} {a2 : Nat} {v3 : Int32} {t0 : Int32} {j1 : Nat} {r2 : Nat → Option Nat} (hi1 : v3 + 1 = nI j1 ∧ j1 < B.2.2.1 ∧ B.2.2.1 < 2 ^ 31) (hO2 : S a2 = kO 6 r2) (hM : kv_P y_Md_size dc B [.ref a2, .int (B.2.2.2 j1)] n S I Qv) (hdp : dc + 1 ≤ d) (K : ∀ v I', Qv v I' → kv_V y_Law_law d B Q kc ks n S I' 449 [(0, .ref B.2.1), (1, .ref a1), (2, .ref a2), (3, .int v3)] (v.toList ++ [.int t0])) : kv_V y_Law_law d B Q kc ks n S I 440 [(0, .ref B.2.1), (1, .ref a1), (2, .ref a2), (3, .int v3)] [.int t0] := by
  refine bl_Law_law_440 hi1 hO2 hM hdp (Nat.zero_le _) (Nat.zero_le _) (fun v n' S' I' hv => ?_)
  obtain ⟨e1, e2, hv⟩ := hv
  subst e1
  subst e2
  exact K v I' hv
theorem bp_Law_law_454 {d : Nat} {B : kv_B} {Q : kv_Q} {kc ks n : Nat} {S : kv_SM} {I : kv_IM} {dc : Nat} {Qv : Option Value → kv_IM → Prop} {a1 : Nat} {a2 : Nat} {v3 : Int32} {j1 : Nat} {j2 : Nat} {r3 : Nat → Option Nat} (hi1 : v3 + 1 = nI j1 ∧ j1 < B.2.2.1 ∧ B.2.2.1 < 2 ^ 31) (hi2 : v3 + 2 = nI j2 ∧ j2 < B.2.2.1 ∧ B.2.2.1 < 2 ^ 31) (hO3 : S a1 = kO 5 r3) (hM : kv_P y_Cb_byteAt dc B [.ref a1, .int (B.2.2.2 j1), .int (B.2.2.2 j2)] n S I Qv) (hdp : dc + 1 ≤ d) (K : ∀ v I', Qv v I' → kv_V y_Law_law d B Q kc ks n S I' 468 [(0, .ref B.2.1), (1, .ref a1), (2, .ref a2), (3, .int v3)] (v.toList ++ [])) : kv_V y_Law_law d B Q kc ks n S I 454 [(0, .ref B.2.1), (1, .ref a1), (2, .ref a2), (3, .int v3)] [] := by
  refine bl_Law_law_454 hi1 hi2 hO3 hM hdp (Nat.zero_le _) (Nat.zero_le _) (fun v n' S' I' hv => ?_)
  obtain ⟨e1, e2, hv⟩ := hv
  subst e1
  subst e2
  exact K v I' hv
theorem bp_Law_law_468 {d : Nat} {B : kv_B} {Q : kv_Q} {kc ks n : Nat} {S : kv_SM} {I : kv_IM} {dc : Nat} {Qv : Option Value → kv_IM → Prop} {a1 : Nat} {a2 : Nat} {v3 : Int32} {t0 : Int32} {j1 : Nat} {j2 : Nat} {r3 : Nat → Option Nat} (hi1 : v3 + 1 = nI j1 ∧ j1 < B.2.2.1 ∧ B.2.2.1 < 2 ^ 31) (hi2 : v3 + 2 = nI j2 ∧ j2 < B.2.2.1 ∧ B.2.2.1 < 2 ^ 31) (hO3 : S a2 = kO 6 r3) (hM : kv_P y_Md_byteAt dc B [.ref a2, .int (B.2.2.2 j1), .int (B.2.2.2 j2)] n S I Qv) (hdp : dc + 1 ≤ d) (K : ∀ v I', Qv v I' → kv_V y_Law_law d B Q kc ks n S I' 482 [(0, .ref B.2.1), (1, .ref a1), (2, .ref a2), (3, .int v3)] (v.toList ++ [.int t0])) : kv_V y_Law_law d B Q kc ks n S I 468 [(0, .ref B.2.1), (1, .ref a1), (2, .ref a2), (3, .int v3)] [.int t0] := by
  refine bl_Law_law_468 hi1 hi2 hO3 hM hdp (Nat.zero_le _) (Nat.zero_le _) (fun v n' S' I' hv => ?_)
  obtain ⟨e1, e2, hv⟩ := hv
  subst e1
  subst e2
  exact K v I' hv
theorem bp_Law_law_487 {d : Nat} {B : kv_B} {Q : kv_Q} {kc ks n : Nat} {S : kv_SM} {I : kv_IM} {dc : Nat} {Qv : Option Value → kv_IM → Prop} {a1 : Nat} {a2 : Nat} {v3 : Int32} {j1 : Nat} {r2 : Nat → Option Nat} (hi1 : v3 + 1 = nI j1 ∧ j1 < B.2.2.1 ∧ B.2.2.1 < 2 ^ 31) (hO2 : S a1 = kO 5 r2) (hM : kv_P y_Cb_blocks dc B [.ref a1, .int (B.2.2.2 j1)] n S I Qv) (hdp : dc + 1 ≤ d) (K : ∀ v I', Qv v I' → kv_V y_Law_law d B Q kc ks n S I' 496 [(0, .ref B.2.1), (1, .ref a1), (2, .ref a2), (3, .int v3)] (v.toList ++ [])) : kv_V y_Law_law d B Q kc ks n S I 487 [(0, .ref B.2.1), (1, .ref a1), (2, .ref a2), (3, .int v3)] [] := by
  refine bl_Law_law_487 hi1 hO2 hM hdp (Nat.zero_le _) (Nat.zero_le _) (fun v n' S' I' hv => ?_)
  obtain ⟨e1, e2, hv⟩ := hv
  subst e1
  subst e2
  exact K v I' hv
theorem bp_Law_law_496 {d : Nat} {B : kv_B} {Q : kv_Q} {kc ks n : Nat} {S : kv_SM} {I : kv_IM} {dc : Nat} {Qv : Option Value → kv_IM → Prop} {a1 : Nat} {a2 : Nat} {v3 : Int32} {t0 : Int32} {j1 : Nat} {r2 : Nat → Option Nat} (hi1 : v3 + 1 = nI j1 ∧ j1 < B.2.2.1 ∧ B.2.2.1 < 2 ^ 31) (hO2 : S a2 = kO 6 r2) (hM : kv_P y_Md_blocks dc B [.ref a2, .int (B.2.2.2 j1)] n S I Qv) (hdp : dc + 1 ≤ d) (K : ∀ v I', Qv v I' → kv_V y_Law_law d B Q kc ks n S I' 505 [(0, .ref B.2.1), (1, .ref a1), (2, .ref a2), (3, .int v3)] (v.toList ++ [.int t0])) : kv_V y_Law_law d B Q kc ks n S I 496 [(0, .ref B.2.1), (1, .ref a1), (2, .ref a2), (3, .int v3)] [.int t0] := by
  refine bl_Law_law_496 hi1 hO2 hM hdp (Nat.zero_le _) (Nat.zero_le _) (fun v n' S' I' hv => ?_)
  obtain ⟨e1, e2, hv⟩ := hv
  subst e1
  subst e2
  exact K v I' hv
theorem bp_Law_law_510 {d : Nat} {B : kv_B} {Q : kv_Q} {kc ks n : Nat} {S : kv_SM} {I : kv_IM} {dc : Nat} {Qv : Option Value → kv_IM → Prop} {a1 : Nat} {a2 : Nat} {v3 : Int32} {j1 : Nat} {j2 : Nat} {j3 : Nat} {r4 : Nat → Option Nat} (hi1 : v3 + 1 = nI j1 ∧ j1 < B.2.2.1 ∧ B.2.2.1 < 2 ^ 31) (hi2 : v3 + 2 = nI j2 ∧ j2 < B.2.2.1 ∧ B.2.2.1 < 2 ^ 31) (hi3 : v3 + 3 = nI j3 ∧ j3 < B.2.2.1 ∧ B.2.2.1 < 2 ^ 31) (hO4 : S a1 = kO 5 r4) (hM : kv_P y_Cb_block dc B [.ref a1, .int (B.2.2.2 j1), .int (B.2.2.2 j2), .int (B.2.2.2 j3)] n S I Qv) (hdp : dc + 1 ≤ d) (K : ∀ v I', Qv v I' → kv_V y_Law_law d B Q kc ks n S I' 529 [(0, .ref B.2.1), (1, .ref a1), (2, .ref a2), (3, .int v3)] (v.toList ++ [])) : kv_V y_Law_law d B Q kc ks n S I 510 [(0, .ref B.2.1), (1, .ref a1), (2, .ref a2), (3, .int v3)] [] := by
  refine bl_Law_law_510 hi1 hi2 hi3 hO4 hM hdp (Nat.zero_le _) (Nat.zero_le _) (fun v n' S' I' hv => ?_)
  obtain ⟨e1, e2, hv⟩ := hv
  subst e1
  subst e2
  exact K v I' hv
theorem bp_Law_law_529 {d : Nat} {B : kv_B} {Q : kv_Q} {kc ks n : Nat} {S : kv_SM} {I : kv_IM} {dc : Nat} {Qv : Option Value → kv_IM → Prop} {a1 : Nat} {a2 : Nat} {v3 : Int32} {t0 : Int32} {j1 : Nat} {j2 : Nat} {j3 : Nat} {r4 : Nat → Option Nat} (hi1 : v3 + 1 = nI j1 ∧ j1 < B.2.2.1 ∧ B.2.2.1 < 2 ^ 31) (hi2 : v3 + 2 = nI j2 ∧ j2 < B.2.2.1 ∧ B.2.2.1 < 2 ^ 31) (hi3 : v3 + 3 = nI j3 ∧ j3 < B.2.2.1 ∧ B.2.2.1 < 2 ^ 31) (hO4 : S a2 = kO 6 r4) (hM : kv_P y_Md_block dc B [.ref a2, .int (B.2.2.2 j1), .int (B.2.2.2 j2), .int (B.2.2.2 j3)] n S I Qv) (hdp : dc + 1 ≤ d) (K : ∀ v I', Qv v I' → kv_V y_Law_law d B Q kc ks n S I' 548 [(0, .ref B.2.1), (1, .ref a1), (2, .ref a2), (3, .int v3)] (v.toList ++ [.int t0])) : kv_V y_Law_law d B Q kc ks n S I 529 [(0, .ref B.2.1), (1, .ref a1), (2, .ref a2), (3, .int v3)] [.int t0] := by
  refine bl_Law_law_529 hi1 hi2 hi3 hO4 hM hdp (Nat.zero_le _) (Nat.zero_le _) (fun v n' S' I' hv => ?_)
  obtain ⟨e1, e2, hv⟩ := hv
  subst e1
  subst e2
  exact K v I' hv
theorem bp_Law_law_553 {d : Nat} {B : kv_B} {Q : kv_Q} {kc ks n : Nat} {S : kv_SM} {I : kv_IM} {dc : Nat} {Qv : Option Value → kv_IM → Prop} {a1 : Nat} {a2 : Nat} {v3 : Int32} {j1 : Nat} {j2 : Nat} {j3 : Nat} {r4 : Nat → Option Nat} (hi1 : v3 + 1 = nI j1 ∧ j1 < B.2.2.1 ∧ B.2.2.1 < 2 ^ 31) (hi2 : v3 + 2 = nI j2 ∧ j2 < B.2.2.1 ∧ B.2.2.1 < 2 ^ 31) (hi3 : v3 + 3 = nI j3 ∧ j3 < B.2.2.1 ∧ B.2.2.1 < 2 ^ 31) (hO4 : S a1 = kO 5 r4) (hM : kv_P y_Cb_digest dc B [.ref a1, .int (B.2.2.2 j1), .int (B.2.2.2 j2), .int (B.2.2.2 j3)] n S I Qv) (hdp : dc + 1 ≤ d) (K : ∀ v I', Qv v I' → kv_V y_Law_law d B Q kc ks n S I' 572 [(0, .ref B.2.1), (1, .ref a1), (2, .ref a2), (3, .int v3)] (v.toList ++ [])) : kv_V y_Law_law d B Q kc ks n S I 553 [(0, .ref B.2.1), (1, .ref a1), (2, .ref a2), (3, .int v3)] [] := by
  refine bl_Law_law_553 hi1 hi2 hi3 hO4 hM hdp (Nat.zero_le _) (Nat.zero_le _) (fun v n' S' I' hv => ?_)
  obtain ⟨e1, e2, hv⟩ := hv
  subst e1
  subst e2
  exact K v I' hv
theorem bp_Law_law_572 {d : Nat} {B : kv_B} {Q : kv_Q} {kc ks n : Nat} {S : kv_SM} {I : kv_IM} {dc : Nat} {Qv : Option Value → kv_IM → Prop} {a1 : Nat} {a2 : Nat} {v3 : Int32} {t0 : Int64} {j1 : Nat} {j2 : Nat} {j3 : Nat} {r4 : Nat → Option Nat} (hi1 : v3 + 1 = nI j1 ∧ j1 < B.2.2.1 ∧ B.2.2.1 < 2 ^ 31) (hi2 : v3 + 2 = nI j2 ∧ j2 < B.2.2.1 ∧ B.2.2.1 < 2 ^ 31) (hi3 : v3 + 3 = nI j3 ∧ j3 < B.2.2.1 ∧ B.2.2.1 < 2 ^ 31) (hO4 : S a2 = kO 6 r4) (hM : kv_P y_Md_digest dc B [.ref a2, .int (B.2.2.2 j1), .int (B.2.2.2 j2), .int (B.2.2.2 j3)] n S I Qv) (hdp : dc + 1 ≤ d) (K : ∀ v I', Qv v I' → kv_V y_Law_law d B Q kc ks n S I' 591 [(0, .ref B.2.1), (1, .ref a1), (2, .ref a2), (3, .int v3)] (v.toList ++ [.long t0])) : kv_V y_Law_law d B Q kc ks n S I 572 [(0, .ref B.2.1), (1, .ref a1), (2, .ref a2), (3, .int v3)] [.long t0] := by
  refine bl_Law_law_572 hi1 hi2 hi3 hO4 hM hdp (Nat.zero_le _) (Nat.zero_le _) (fun v n' S' I' hv => ?_)
  obtain ⟨e1, e2, hv⟩ := hv
  subst e1
  subst e2
  exact K v I' hv
theorem bp_Law_law_597 {d : Nat} {B : kv_B} {Q : kv_Q} {kc ks n : Nat} {S : kv_SM} {I : kv_IM} {dc : Nat} {Qv : Option Value → kv_IM → Prop} {a1 : Nat} {a2 : Nat} {v3 : Int32} {j1 : Nat} {j2 : Nat} {r3 : Nat → Option Nat} (hi1 : v3 + 1 = nI j1 ∧ j1 < B.2.2.1 ∧ B.2.2.1 < 2 ^ 31) (hi2 : v3 + 2 = nI j2 ∧ j2 < B.2.2.1 ∧ B.2.2.1 < 2 ^ 31) (hO3 : S a1 = kO 5 r3) (hM : kv_P y_Cb_hash dc B [.ref a1, .int (B.2.2.2 j1), .int (B.2.2.2 j2)] n S I Qv) (hdp : dc + 1 ≤ d) (K : ∀ v I', Qv v I' → kv_V y_Law_law d B Q kc ks n S I' 611 [(0, .ref B.2.1), (1, .ref a1), (2, .ref a2), (3, .int v3)] (v.toList ++ [])) : kv_V y_Law_law d B Q kc ks n S I 597 [(0, .ref B.2.1), (1, .ref a1), (2, .ref a2), (3, .int v3)] [] := by
  refine bl_Law_law_597 hi1 hi2 hO3 hM hdp (Nat.zero_le _) (Nat.zero_le _) (fun v n' S' I' hv => ?_)
  obtain ⟨e1, e2, hv⟩ := hv
  subst e1
  subst e2
  exact K v I' hv
theorem bp_Law_law_611 {d : Nat} {B : kv_B} {Q : kv_Q} {kc ks n : Nat} {S : kv_SM} {I : kv_IM} {dc : Nat} {Qv : Option Value → kv_IM → Prop} {a1 : Nat} {a2 : Nat} {v3 : Int32} {t0 : Int64} {j1 : Nat} {j2 : Nat} {r3 : Nat → Option Nat} (hi1 : v3 + 1 = nI j1 ∧ j1 < B.2.2.1 ∧ B.2.2.1 < 2 ^ 31) (hi2 : v3 + 2 = nI j2 ∧ j2 < B.2.2.1 ∧ B.2.2.1 < 2 ^ 31) (hO3 : S a2 = kO 6 r3) (hM : kv_P y_Md_hash dc B [.ref a2, .int (B.2.2.2 j1), .int (B.2.2.2 j2)] n S I Qv) (hdp : dc + 1 ≤ d) (K : ∀ v I', Qv v I' → kv_V y_Law_law d B Q kc ks n S I' 625 [(0, .ref B.2.1), (1, .ref a1), (2, .ref a2), (3, .int v3)] (v.toList ++ [.long t0])) : kv_V y_Law_law d B Q kc ks n S I 611 [(0, .ref B.2.1), (1, .ref a1), (2, .ref a2), (3, .int v3)] [.long t0] := by
  refine bl_Law_law_611 hi1 hi2 hO3 hM hdp (Nat.zero_le _) (Nat.zero_le _) (fun v n' S' I' hv => ?_)
  obtain ⟨e1, e2, hv⟩ := hv
  subst e1
  subst e2
  exact K v I' hv
theorem bp_Law_law_631 {d : Nat} {B : kv_B} {Q : kv_Q} {kc ks n : Nat} {S : kv_SM} {I : kv_IM} {dc : Nat} {Qv : Option Value → kv_IM → Prop} {a1 : Nat} {a2 : Nat} {v3 : Int32} {j1 : Nat} {j2 : Nat} {j3 : Nat} {r4 : Nat → Option Nat} (hi1 : v3 + 1 = nI j1 ∧ j1 < B.2.2.1 ∧ B.2.2.1 < 2 ^ 31) (hi2 : v3 + 2 = nI j2 ∧ j2 < B.2.2.1 ∧ B.2.2.1 < 2 ^ 31) (hi3 : v3 + 3 = nI j3 ∧ j3 < B.2.2.1 ∧ B.2.2.1 < 2 ^ 31) (hO4 : S a1 = kO 5 r4) (hM : kv_P y_Cb_alike dc B [.ref a1, .int (B.2.2.2 j1), .int (B.2.2.2 j2), .int (B.2.2.2 j3)] n S I Qv) (hdp : dc + 1 ≤ d) (K : ∀ v I', Qv v I' → kv_V y_Law_law d B Q kc ks n S I' 650 [(0, .ref B.2.1), (1, .ref a1), (2, .ref a2), (3, .int v3)] (v.toList ++ [])) : kv_V y_Law_law d B Q kc ks n S I 631 [(0, .ref B.2.1), (1, .ref a1), (2, .ref a2), (3, .int v3)] [] := by
  refine bl_Law_law_631 hi1 hi2 hi3 hO4 hM hdp (Nat.zero_le _) (Nat.zero_le _) (fun v n' S' I' hv => ?_)
  obtain ⟨e1, e2, hv⟩ := hv
  subst e1
  subst e2
  exact K v I' hv
theorem bp_Law_law_650 {d : Nat} {B : kv_B} {Q : kv_Q} {kc ks n : Nat} {S : kv_SM} {I : kv_IM} {dc : Nat} {Qv : Option Value → kv_IM → Prop} {a1 : Nat} {a2 : Nat} {v3 : Int32} {t0 : Int32} {j1 : Nat} {j2 : Nat} {j3 : Nat} {r4 : Nat → Option Nat} (hi1 : v3 + 1 = nI j1 ∧ j1 < B.2.2.1 ∧ B.2.2.1 < 2 ^ 31) (hi2 : v3 + 2 = nI j2 ∧ j2 < B.2.2.1 ∧ B.2.2.1 < 2 ^ 31) (hi3 : v3 + 3 = nI j3 ∧ j3 < B.2.2.1 ∧ B.2.2.1 < 2 ^ 31) (hO4 : S a2 = kO 6 r4) (hM : kv_P y_Md_alike dc B [.ref a2, .int (B.2.2.2 j1), .int (B.2.2.2 j2), .int (B.2.2.2 j3)] n S I Qv) (hdp : dc + 1 ≤ d) (K : ∀ v I', Qv v I' → kv_V y_Law_law d B Q kc ks n S I' 669 [(0, .ref B.2.1), (1, .ref a1), (2, .ref a2), (3, .int v3)] (v.toList ++ [.int t0])) : kv_V y_Law_law d B Q kc ks n S I 650 [(0, .ref B.2.1), (1, .ref a1), (2, .ref a2), (3, .int v3)] [.int t0] := by
  refine bl_Law_law_650 hi1 hi2 hi3 hO4 hM hdp (Nat.zero_le _) (Nat.zero_le _) (fun v n' S' I' hv => ?_)
  obtain ⟨e1, e2, hv⟩ := hv
  subst e1
  subst e2
  exact K v I' hv
theorem bp_Law_law_674 {d : Nat} {B : kv_B} {Q : kv_Q} {kc ks n : Nat} {S : kv_SM} {I : kv_IM} {dc : Nat} {Qv : Option Value → kv_IM → Prop} {a1 : Nat} {a2 : Nat} {v3 : Int32} {j1 : Nat} {r2 : Nat → Option Nat} (hi1 : v3 + 1 = nI j1 ∧ j1 < B.2.2.1 ∧ B.2.2.1 < 2 ^ 31) (hO2 : S a1 = kO 5 r2) (hM : kv_P y_Cb_keep dc B [.ref a1, .int (B.2.2.2 j1)] n S I Qv) (hdp : dc + 1 ≤ d) (K : ∀ v I', Qv v I' → kv_V y_Law_law d B Q kc ks n S I' 683 [(0, .ref B.2.1), (1, .ref a1), (2, .ref a2), (3, .int v3)] (v.toList ++ [])) : kv_V y_Law_law d B Q kc ks n S I 674 [(0, .ref B.2.1), (1, .ref a1), (2, .ref a2), (3, .int v3)] [] := by
  refine bl_Law_law_674 hi1 hO2 hM hdp (Nat.zero_le _) (Nat.zero_le _) (fun v n' S' I' hv => ?_)
  obtain ⟨e1, e2, hv⟩ := hv
  subst e1
  subst e2
  exact K v I' hv
theorem bp_Law_law_683 {d : Nat} {B : kv_B} {Q : kv_Q} {kc ks n : Nat} {S : kv_SM} {I : kv_IM} {dc : Nat} {Qv : Option Value → kv_IM → Prop} {a1 : Nat} {a2 : Nat} {v3 : Int32} {t0 : Int32} {j1 : Nat} {r2 : Nat → Option Nat} (hi1 : v3 + 1 = nI j1 ∧ j1 < B.2.2.1 ∧ B.2.2.1 < 2 ^ 31) (hO2 : S a2 = kO 6 r2) (hM : kv_P y_Md_keep dc B [.ref a2, .int (B.2.2.2 j1)] n S I Qv) (hdp : dc + 1 ≤ d) (K : ∀ v I', Qv v I' → kv_V y_Law_law d B Q kc ks n S I' 692 [(0, .ref B.2.1), (1, .ref a1), (2, .ref a2), (3, .int v3)] (v.toList ++ [.int t0])) : kv_V y_Law_law d B Q kc ks n S I 683 [(0, .ref B.2.1), (1, .ref a1), (2, .ref a2), (3, .int v3)] [.int t0] := by
  refine bl_Law_law_683 hi1 hO2 hM hdp (Nat.zero_le _) (Nat.zero_le _) (fun v n' S' I' hv => ?_)
  obtain ⟨e1, e2, hv⟩ := hv
  subst e1
  subst e2
  exact K v I' hv
theorem bp_Law_law_697 {d : Nat} {B : kv_B} {Q : kv_Q} {kc ks n : Nat} {S : kv_SM} {I : kv_IM} {dc : Nat} {Qv : Option Value → kv_IM → Prop} {a1 : Nat} {a2 : Nat} {v3 : Int32} {j1 : Nat} {r2 : Nat → Option Nat} (hi1 : v3 + 1 = nI j1 ∧ j1 < B.2.2.1 ∧ B.2.2.1 < 2 ^ 31) (hO2 : S a1 = kO 5 r2) (hM : kv_P y_Cb_drop dc B [.ref a1, .int (B.2.2.2 j1)] n S I Qv) (hdp : dc + 1 ≤ d) (K : ∀ v I', Qv v I' → kv_V y_Law_law d B Q kc ks n S I' 706 [(0, .ref B.2.1), (1, .ref a1), (2, .ref a2), (3, .int v3)] (v.toList ++ [])) : kv_V y_Law_law d B Q kc ks n S I 697 [(0, .ref B.2.1), (1, .ref a1), (2, .ref a2), (3, .int v3)] [] := by
  refine bl_Law_law_697 hi1 hO2 hM hdp (Nat.zero_le _) (Nat.zero_le _) (fun v n' S' I' hv => ?_)
  obtain ⟨e1, e2, hv⟩ := hv
  subst e1
  subst e2
  exact K v I' hv
theorem bp_Law_law_706 {d : Nat} {B : kv_B} {Q : kv_Q} {kc ks n : Nat} {S : kv_SM} {I : kv_IM} {dc : Nat} {Qv : Option Value → kv_IM → Prop} {a1 : Nat} {a2 : Nat} {v3 : Int32} {t0 : Int32} {j1 : Nat} {r2 : Nat → Option Nat} (hi1 : v3 + 1 = nI j1 ∧ j1 < B.2.2.1 ∧ B.2.2.1 < 2 ^ 31) (hO2 : S a2 = kO 6 r2) (hM : kv_P y_Md_drop dc B [.ref a2, .int (B.2.2.2 j1)] n S I Qv) (hdp : dc + 1 ≤ d) (K : ∀ v I', Qv v I' → kv_V y_Law_law d B Q kc ks n S I' 715 [(0, .ref B.2.1), (1, .ref a1), (2, .ref a2), (3, .int v3)] (v.toList ++ [.int t0])) : kv_V y_Law_law d B Q kc ks n S I 706 [(0, .ref B.2.1), (1, .ref a1), (2, .ref a2), (3, .int v3)] [.int t0] := by
  refine bl_Law_law_706 hi1 hO2 hM hdp (Nat.zero_le _) (Nat.zero_le _) (fun v n' S' I' hv => ?_)
  obtain ⟨e1, e2, hv⟩ := hv
  subst e1
  subst e2
  exact K v I' hv
theorem bp_Law_law_720 {d : Nat} {B : kv_B} {Q : kv_Q} {kc ks n : Nat} {S : kv_SM} {I : kv_IM} {dc : Nat} {Qv : Option Value → kv_IM → Prop} {a1 : Nat} {a2 : Nat} {v3 : Int32} {j1 : Nat} {j2 : Nat} {r3 : Nat → Option Nat} (hi1 : v3 + 1 = nI j1 ∧ j1 < B.2.2.1 ∧ B.2.2.1 < 2 ^ 31) (hi2 : v3 + 2 = nI j2 ∧ j2 < B.2.2.1 ∧ B.2.2.1 < 2 ^ 31) (hO3 : S a1 = kO 5 r3) (hM : kv_P y_Cb_restore dc B [.ref a1, .int (B.2.2.2 j1), .int (B.2.2.2 j2)] n S I Qv) (hdp : dc + 1 ≤ d) (K : ∀ v I', Qv v I' → kv_V y_Law_law d B Q kc ks n S I' 734 [(0, .ref B.2.1), (1, .ref a1), (2, .ref a2), (3, .int v3)] (v.toList ++ [])) : kv_V y_Law_law d B Q kc ks n S I 720 [(0, .ref B.2.1), (1, .ref a1), (2, .ref a2), (3, .int v3)] [] := by
  refine bl_Law_law_720 hi1 hi2 hO3 hM hdp (Nat.zero_le _) (Nat.zero_le _) (fun v n' S' I' hv => ?_)
  obtain ⟨e1, e2, hv⟩ := hv
  subst e1
  subst e2
  exact K v I' hv
theorem bp_Law_law_734 {d : Nat} {B : kv_B} {Q : kv_Q} {kc ks n : Nat} {S : kv_SM} {I : kv_IM} {dc : Nat} {Qv : Option Value → kv_IM → Prop} {a1 : Nat} {a2 : Nat} {v3 : Int32} {t0 : Int32} {j1 : Nat} {j2 : Nat} {r3 : Nat → Option Nat} (hi1 : v3 + 1 = nI j1 ∧ j1 < B.2.2.1 ∧ B.2.2.1 < 2 ^ 31) (hi2 : v3 + 2 = nI j2 ∧ j2 < B.2.2.1 ∧ B.2.2.1 < 2 ^ 31) (hO3 : S a2 = kO 6 r3) (hM : kv_P y_Md_restore dc B [.ref a2, .int (B.2.2.2 j1), .int (B.2.2.2 j2)] n S I Qv) (hdp : dc + 1 ≤ d) (K : ∀ v I', Qv v I' → kv_V y_Law_law d B Q kc ks n S I' 748 [(0, .ref B.2.1), (1, .ref a1), (2, .ref a2), (3, .int v3)] (v.toList ++ [.int t0])) : kv_V y_Law_law d B Q kc ks n S I 734 [(0, .ref B.2.1), (1, .ref a1), (2, .ref a2), (3, .int v3)] [.int t0] := by
  refine bl_Law_law_734 hi1 hi2 hO3 hM hdp (Nat.zero_le _) (Nat.zero_le _) (fun v n' S' I' hv => ?_)
  obtain ⟨e1, e2, hv⟩ := hv
  subst e1
  subst e2
  exact K v I' hv
theorem bp_Law_law_753 {d : Nat} {B : kv_B} {Q : kv_Q} {kc ks n : Nat} {S : kv_SM} {I : kv_IM} {dc : Nat} {Qv : Option Value → kv_IM → Prop} {a1 : Nat} {a2 : Nat} {v3 : Int32} {j1 : Nat} {j2 : Nat} {r3 : Nat → Option Nat} (hi1 : v3 + 1 = nI j1 ∧ j1 < B.2.2.1 ∧ B.2.2.1 < 2 ^ 31) (hi2 : v3 + 2 = nI j2 ∧ j2 < B.2.2.1 ∧ B.2.2.1 < 2 ^ 31) (hO3 : S a1 = kO 5 r3) (hM : kv_P y_Cb_told dc B [.ref a1, .int (B.2.2.2 j1), .int (B.2.2.2 j2)] n S I Qv) (hdp : dc + 1 ≤ d) (K : ∀ v I', Qv v I' → kv_V y_Law_law d B Q kc ks n S I' 767 [(0, .ref B.2.1), (1, .ref a1), (2, .ref a2), (3, .int v3)] (v.toList ++ [])) : kv_V y_Law_law d B Q kc ks n S I 753 [(0, .ref B.2.1), (1, .ref a1), (2, .ref a2), (3, .int v3)] [] := by
  refine bl_Law_law_753 hi1 hi2 hO3 hM hdp (Nat.zero_le _) (Nat.zero_le _) (fun v n' S' I' hv => ?_)
  obtain ⟨e1, e2, hv⟩ := hv
  subst e1
  subst e2
  exact K v I' hv
theorem bp_Law_law_767 {d : Nat} {B : kv_B} {Q : kv_Q} {kc ks n : Nat} {S : kv_SM} {I : kv_IM} {dc : Nat} {Qv : Option Value → kv_IM → Prop} {a1 : Nat} {a2 : Nat} {v3 : Int32} {t0 : Int32} {j1 : Nat} {j2 : Nat} {r3 : Nat → Option Nat} (hi1 : v3 + 1 = nI j1 ∧ j1 < B.2.2.1 ∧ B.2.2.1 < 2 ^ 31) (hi2 : v3 + 2 = nI j2 ∧ j2 < B.2.2.1 ∧ B.2.2.1 < 2 ^ 31) (hO3 : S a2 = kO 6 r3) (hM : kv_P y_Md_told dc B [.ref a2, .int (B.2.2.2 j1), .int (B.2.2.2 j2)] n S I Qv) (hdp : dc + 1 ≤ d) (K : ∀ v I', Qv v I' → kv_V y_Law_law d B Q kc ks n S I' 781 [(0, .ref B.2.1), (1, .ref a1), (2, .ref a2), (3, .int v3)] (v.toList ++ [.int t0])) : kv_V y_Law_law d B Q kc ks n S I 767 [(0, .ref B.2.1), (1, .ref a1), (2, .ref a2), (3, .int v3)] [.int t0] := by
  refine bl_Law_law_767 hi1 hi2 hO3 hM hdp (Nat.zero_le _) (Nat.zero_le _) (fun v n' S' I' hv => ?_)
  obtain ⟨e1, e2, hv⟩ := hv
  subst e1
  subst e2
  exact K v I' hv
theorem bp_Law_law_786 {d : Nat} {B : kv_B} {Q : kv_Q} {kc ks n : Nat} {S : kv_SM} {I : kv_IM} {dc : Nat} {Qv : Option Value → kv_IM → Prop} {a1 : Nat} {a2 : Nat} {v3 : Int32} {j1 : Nat} {j2 : Nat} {r3 : Nat → Option Nat} (hi1 : v3 + 1 = nI j1 ∧ j1 < B.2.2.1 ∧ B.2.2.1 < 2 ^ 31) (hi2 : v3 + 2 = nI j2 ∧ j2 < B.2.2.1 ∧ B.2.2.1 < 2 ^ 31) (hO3 : S a1 = kO 5 r3) (hM : kv_P y_Cb_uses dc B [.ref a1, .int (B.2.2.2 j1), .int (B.2.2.2 j2)] n S I Qv) (hdp : dc + 1 ≤ d) (K : ∀ v I', Qv v I' → kv_V y_Law_law d B Q kc ks n S I' 800 [(0, .ref B.2.1), (1, .ref a1), (2, .ref a2), (3, .int v3)] (v.toList ++ [])) : kv_V y_Law_law d B Q kc ks n S I 786 [(0, .ref B.2.1), (1, .ref a1), (2, .ref a2), (3, .int v3)] [] := by
  refine bl_Law_law_786 hi1 hi2 hO3 hM hdp (Nat.zero_le _) (Nat.zero_le _) (fun v n' S' I' hv => ?_)
  obtain ⟨e1, e2, hv⟩ := hv
  subst e1
  subst e2
  exact K v I' hv
theorem bp_Law_law_800 {d : Nat} {B : kv_B} {Q : kv_Q} {kc ks n : Nat} {S : kv_SM} {I : kv_IM} {dc : Nat} {Qv : Option Value → kv_IM → Prop} {a1 : Nat} {a2 : Nat} {v3 : Int32} {t0 : Int32} {j1 : Nat} {j2 : Nat} {r3 : Nat → Option Nat} (hi1 : v3 + 1 = nI j1 ∧ j1 < B.2.2.1 ∧ B.2.2.1 < 2 ^ 31) (hi2 : v3 + 2 = nI j2 ∧ j2 < B.2.2.1 ∧ B.2.2.1 < 2 ^ 31) (hO3 : S a2 = kO 6 r3) (hM : kv_P y_Md_uses dc B [.ref a2, .int (B.2.2.2 j1), .int (B.2.2.2 j2)] n S I Qv) (hdp : dc + 1 ≤ d) (K : ∀ v I', Qv v I' → kv_V y_Law_law d B Q kc ks n S I' 814 [(0, .ref B.2.1), (1, .ref a1), (2, .ref a2), (3, .int v3)] (v.toList ++ [.int t0])) : kv_V y_Law_law d B Q kc ks n S I 800 [(0, .ref B.2.1), (1, .ref a1), (2, .ref a2), (3, .int v3)] [.int t0] := by
  refine bl_Law_law_800 hi1 hi2 hO3 hM hdp (Nat.zero_le _) (Nat.zero_le _) (fun v n' S' I' hv => ?_)
  obtain ⟨e1, e2, hv⟩ := hv
  subst e1
  subst e2
  exact K v I' hv
theorem bp_Law_law_819 {d : Nat} {B : kv_B} {Q : kv_Q} {kc ks n : Nat} {S : kv_SM} {I : kv_IM} {dc : Nat} {Qv : Option Value → kv_IM → Prop} {a1 : Nat} {a2 : Nat} {v3 : Int32} {j1 : Nat} {r2 : Nat → Option Nat} (hi1 : v3 + 1 = nI j1 ∧ j1 < B.2.2.1 ∧ B.2.2.1 < 2 ^ 31) (hO2 : S a1 = kO 5 r2) (hM : kv_P y_Cb_kept dc B [.ref a1, .int (B.2.2.2 j1)] n S I Qv) (hdp : dc + 1 ≤ d) (K : ∀ v I', Qv v I' → kv_V y_Law_law d B Q kc ks n S I' 828 [(0, .ref B.2.1), (1, .ref a1), (2, .ref a2), (3, .int v3)] (v.toList ++ [])) : kv_V y_Law_law d B Q kc ks n S I 819 [(0, .ref B.2.1), (1, .ref a1), (2, .ref a2), (3, .int v3)] [] := by
  refine bl_Law_law_819 hi1 hO2 hM hdp (Nat.zero_le _) (Nat.zero_le _) (fun v n' S' I' hv => ?_)
  obtain ⟨e1, e2, hv⟩ := hv
  subst e1
  subst e2
  exact K v I' hv
theorem bp_Law_law_828 {d : Nat} {B : kv_B} {Q : kv_Q} {kc ks n : Nat} {S : kv_SM} {I : kv_IM} {dc : Nat} {Qv : Option Value → kv_IM → Prop} {a1 : Nat} {a2 : Nat} {v3 : Int32} {t0 : Int32} {j1 : Nat} {r2 : Nat → Option Nat} (hi1 : v3 + 1 = nI j1 ∧ j1 < B.2.2.1 ∧ B.2.2.1 < 2 ^ 31) (hO2 : S a2 = kO 6 r2) (hM : kv_P y_Md_kept dc B [.ref a2, .int (B.2.2.2 j1)] n S I Qv) (hdp : dc + 1 ≤ d) (K : ∀ v I', Qv v I' → kv_V y_Law_law d B Q kc ks n S I' 837 [(0, .ref B.2.1), (1, .ref a1), (2, .ref a2), (3, .int v3)] (v.toList ++ [.int t0])) : kv_V y_Law_law d B Q kc ks n S I 828 [(0, .ref B.2.1), (1, .ref a1), (2, .ref a2), (3, .int v3)] [.int t0] := by
  refine bl_Law_law_828 hi1 hO2 hM hdp (Nat.zero_le _) (Nat.zero_le _) (fun v n' S' I' hv => ?_)
  obtain ⟨e1, e2, hv⟩ := hv
  subst e1
  subst e2
  exact K v I' hv
