theorem kRl_M {I J : kv_IM} {o w hi : Nat} {ru : Nat → Nat} {tab : Nat → Int32} {len : Nat → Nat} {tb : Nat → Nat → Nat} (hw : o + 61 < w) (hh : hi ≤ o + 61) (hF : kFr o hi I J) (h : MdA I w ru tab len tb) : MdA J w ru tab len tb := MdA_of h (fun i _ _ => by rw [hF w (by omega)]) (fun a b1 b2 => hF a (by omega))
theorem kRl_S {I J : kv_IM} {o w hi : Nat} {σ : kSt} (hw : o + 61 < w) (hh : hi ≤ o + 61) (hF : kFr o hi I J) (h : StM I w σ) : StM J w σ := StM_of h (by rw [hF w (by omega)]) (by rw [hF w (by omega)]) (fun a b1 b2 => hF a (by omega))
theorem kRl_C {I J : kv_IM} {o w hi : Nat} {ru : Nat → Nat} {tab : Nat → Int32} {len : Nat → Nat} {tb : Nat → Nat → Nat} (hw : o + 61 < w) (hF : kFr w hi I J) (h : CbA I o ru tab len tb) : CbA J o ru tab len tb := CbA_of h (fun a b1 b2 => hF a (by omega))
theorem kRl_T {I J : kv_IM} {o w hi : Nat} {σ : kSt} (hw : o + 61 < w) (hF : kFr w hi I J) (h : StC I (o + 32) σ) : StC J (o + 32) σ := StC_of h (fun a b1 b2 => hF a (by omega))
theorem kRl_U {I J : kv_IM} {o : Nat} {σ : kSt} (hF : kFr o (o + 31) I J) (h : StC I (o + 32) σ) : StC J (o + 32) σ := StC_of h (fun a b1 b2 => hF a (by omega))
theorem StK_kp {I : kv_IM} {o : Nat} {ru : Nat → Nat} {tab : Nat → Int32} {len : Nat → Nat} {tb : Nat → Nat → Nat} {σ : kSt} {t : Int32} (hA : CbA I o ru tab len tb) (hK : StK σ) : StK (sKp ru tab len tb σ t).2 := by
  unfold sKp
  by_cases ht : kT t
  · rw [if_pos ht]
    have h1 : len (tN t) ≤ 1500 := (hA.2.2 (tN t) (by have h2 := ht.1; have h3 := ht.2; unfold tN; omega)).1
    exact StK_keep hK (Nat.le_trans kCnt_le h1) (fun k hk => kPos_inc hk) (by rw [kCnt_end]; exact h1)
  · rw [if_neg ht]
    exact hK
theorem kRl_cmp {x : Int64} : lg_cmp x x = 0 := by
  unfold lg_cmp
  rw [if_neg Int64.lt_irrefl, if_pos rfl]
def kRel (I : kv_IM) (o w : Nat) : Prop := ∃ (ru : Nat → Nat) (tab : Nat → Int32) (len : Nat → Nat) (tb : Nat → Nat → Nat) (σ : kSt), RuOK ru ∧ CbA I o ru tab len tb ∧ MdA I w ru tab len tb ∧ StC I (o + 32) σ ∧ StM I w σ ∧ StK σ
theorem lwc_seed {d : Nat} {B : kv_B} {Q : kv_Q} {kc ks n : Nat} {S : kv_SM} {I : kv_IM} {o w : Nat} {v3 : Int32} {j1 : Nat} (hd : 9 ≤ d) (hw : o + 61 < w) (hS : CbS S o) (hM : MdS S w) (hR : kRel I o w) (hi1 : v3 + 1 = nI j1 ∧ j1 < B.2.2.1 ∧ B.2.2.1 < 2 ^ 31) (K : ∀ J, kRel J o w → kv_V y_Law_law d B Q kc ks n S J 842 [(0, .ref B.2.1), (1, .ref o), (2, .ref w), (3, .int v3)] []) : kv_V y_Law_law d B Q kc ks n S I 128 [(0, .ref B.2.1), (1, .ref o), (2, .ref w), (3, .int v3)] [] := by
  obtain ⟨ru, tab, len, tb, σ, h1, h2, h3, h4, h5, h6⟩ := hR
  refine bp_Law_law_128 (dc := 8) hi1 hS.1 (c_Cb_seed (by omega) _ hS h2) (by omega) (fun v J hv => ?_)
  obtain ⟨rfl, f1, f2⟩ := hv
  refine bp_Law_law_137 (dc := 8) hi1 hM.1 (c_Md_seed (by omega) _ hM (kRl_M hw (by omega) f1 h3)) (by omega) (fun v L hv => ?_)
  obtain ⟨rfl, g1, g2⟩ := hv
  exact bl_Law_law_146 (fun _ => K L ⟨_, _, _, _, _, h1, kRl_C hw g1.1 f2, g2, kRl_T hw g1.1 (kRl_U f1 h4), StM_K (kRl_S hw (by omega) f1 h5) g1, h6⟩) (fun h => absurd rfl h)
theorem lwc_rule {d : Nat} {B : kv_B} {Q : kv_Q} {kc ks n : Nat} {S : kv_SM} {I : kv_IM} {o w : Nat} {v3 : Int32} {j1 j2 j3 j4 j5 j6 : Nat} (hd : 9 ≤ d) (hw : o + 61 < w) (hS : CbS S o) (hM : MdS S w) (hR : kRel I o w) (hi1 : v3 + 1 = nI j1 ∧ j1 < B.2.2.1 ∧ B.2.2.1 < 2 ^ 31) (hi2 : v3 + 2 = nI j2 ∧ j2 < B.2.2.1 ∧ B.2.2.1 < 2 ^ 31) (hi3 : v3 + 3 = nI j3 ∧ j3 < B.2.2.1 ∧ B.2.2.1 < 2 ^ 31) (hi4 : v3 + 4 = nI j4 ∧ j4 < B.2.2.1 ∧ B.2.2.1 < 2 ^ 31) (hi5 : v3 + 5 = nI j5 ∧ j5 < B.2.2.1 ∧ B.2.2.1 < 2 ^ 31) (hi6 : v3 + 6 = nI j6 ∧ j6 < B.2.2.1 ∧ B.2.2.1 < 2 ^ 31) (K : ∀ J, kRel J o w → kv_V y_Law_law d B Q kc ks n S J 842 [(0, .ref B.2.1), (1, .ref o), (2, .ref w), (3, .int v3)] []) : kv_V y_Law_law d B Q kc ks n S I 151 [(0, .ref B.2.1), (1, .ref o), (2, .ref w), (3, .int v3)] [] := by
  obtain ⟨ru, tab, len, tb, σ, h1, h2, h3, h4, h5, h6⟩ := hR
  refine bp_Law_law_151 (dc := 8) hi1 hi2 hi3 hi4 hi5 hi6 hS.1 (c_Cb_rule (by omega) _ _ _ _ _ _ hS h2) (by omega) (fun v J hv => ?_)
  obtain ⟨rfl, f1, f2⟩ := hv
  refine bp_Law_law_186 (dc := 8) hi1 hi2 hi3 hi4 hi5 hi6 hM.1 (c_Md_rule (by omega) _ _ _ _ _ _ hM (kRl_M hw (by omega) f1 h3)) (by omega) (fun v L hv => ?_)
  obtain ⟨rfl, g1, g2⟩ := hv
  refine bl_Law_law_221 (fun _ => K L ⟨_, _, _, _, σ, ?_, kRl_C hw g1.1 f2, g2, kRl_T hw g1.1 (kRl_U f1 h4), StM_K (kRl_S hw (by omega) f1 h5) g1, h6⟩) (fun h => absurd rfl h)
  split
  · rename_i hv
    exact ruOf_ok hv
  · exact h1
theorem lwc_add {d : Nat} {B : kv_B} {Q : kv_Q} {kc ks n : Nat} {S : kv_SM} {I : kv_IM} {o w : Nat} {v3 : Int32} {j1 j2 : Nat} (hd : 9 ≤ d) (hw : o + 61 < w) (hS : CbS S o) (hM : MdS S w) (hR : kRel I o w) (hi1 : v3 + 1 = nI j1 ∧ j1 < B.2.2.1 ∧ B.2.2.1 < 2 ^ 31) (hi2 : v3 + 2 = nI j2 ∧ j2 < B.2.2.1 ∧ B.2.2.1 < 2 ^ 31) (K : ∀ J, kRel J o w → kv_V y_Law_law d B Q kc ks n S J 842 [(0, .ref B.2.1), (1, .ref o), (2, .ref w), (3, .int v3)] []) : kv_V y_Law_law d B Q kc ks n S I 226 [(0, .ref B.2.1), (1, .ref o), (2, .ref w), (3, .int v3)] [] := by
  obtain ⟨ru, tab, len, tb, σ, h1, h2, h3, h4, h5, h6⟩ := hR
  refine bp_Law_law_226 (dc := 8) hi1 hi2 hS.1 (c_Cb_add (by omega) _ _ hS h2) (by omega) (fun v J hv => ?_)
  obtain ⟨rfl, f1, f2⟩ := hv
  refine bp_Law_law_240 (dc := 8) hi1 hi2 hM.1 (c_Md_add (by omega) _ _ hM (kRl_M hw (by omega) f1 h3)) (by omega) (fun v L hv => ?_)
  obtain ⟨rfl, g1, g2⟩ := hv
  exact bl_Law_law_254 (fun _ => K L ⟨_, _, _, _, _, h1, kRl_C hw g1.1 f2, g2, kRl_T hw g1.1 (kRl_U f1 h4), StM_K (kRl_S hw (by omega) f1 h5) g1, h6⟩) (fun h => absurd rfl h)
theorem lwc_fill {d : Nat} {B : kv_B} {Q : kv_Q} {kc ks n : Nat} {S : kv_SM} {I : kv_IM} {o w : Nat} {v3 : Int32} {j1 j2 j3 j4 : Nat} (hd : 9 ≤ d) (hw : o + 61 < w) (hS : CbS S o) (hM : MdS S w) (hR : kRel I o w) (hi1 : v3 + 1 = nI j1 ∧ j1 < B.2.2.1 ∧ B.2.2.1 < 2 ^ 31) (hi2 : v3 + 2 = nI j2 ∧ j2 < B.2.2.1 ∧ B.2.2.1 < 2 ^ 31) (hi3 : v3 + 3 = nI j3 ∧ j3 < B.2.2.1 ∧ B.2.2.1 < 2 ^ 31) (hi4 : v3 + 4 = nI j4 ∧ j4 < B.2.2.1 ∧ B.2.2.1 < 2 ^ 31) (K : ∀ J, kRel J o w → kv_V y_Law_law d B Q kc ks n S J 842 [(0, .ref B.2.1), (1, .ref o), (2, .ref w), (3, .int v3)] []) : kv_V y_Law_law d B Q kc ks n S I 259 [(0, .ref B.2.1), (1, .ref o), (2, .ref w), (3, .int v3)] [] := by
  obtain ⟨ru, tab, len, tb, σ, h1, h2, h3, h4, h5, h6⟩ := hR
  refine bp_Law_law_259 (dc := 8) hi1 hi2 hi3 hi4 hS.1 (c_Cb_fill (by omega) _ _ _ _ hS h2) (by omega) (fun v J hv => ?_)
  obtain ⟨rfl, f1, f2⟩ := hv
  refine bp_Law_law_283 (dc := 8) hi1 hi2 hi3 hi4 hM.1 (c_Md_fill (by omega) _ _ _ _ hM (kRl_M hw (by omega) f1 h3)) (by omega) (fun v L hv => ?_)
  obtain ⟨rfl, g1, g2⟩ := hv
  exact bl_Law_law_307 (fun _ => K L ⟨_, _, _, _, _, h1, kRl_C hw g1.1 f2, g2, kRl_T hw g1.1 (kRl_U f1 h4), StM_K (kRl_S hw (by omega) f1 h5) g1, h6⟩) (fun h => absurd rfl h)
theorem lwc_insert {d : Nat} {B : kv_B} {Q : kv_Q} {kc ks n : Nat} {S : kv_SM} {I : kv_IM} {o w : Nat} {v3 : Int32} {j1 j2 j3 : Nat} (hd : 9 ≤ d) (hw : o + 61 < w) (hS : CbS S o) (hM : MdS S w) (hR : kRel I o w) (hi1 : v3 + 1 = nI j1 ∧ j1 < B.2.2.1 ∧ B.2.2.1 < 2 ^ 31) (hi2 : v3 + 2 = nI j2 ∧ j2 < B.2.2.1 ∧ B.2.2.1 < 2 ^ 31) (hi3 : v3 + 3 = nI j3 ∧ j3 < B.2.2.1 ∧ B.2.2.1 < 2 ^ 31) (K : ∀ J, kRel J o w → kv_V y_Law_law d B Q kc ks n S J 842 [(0, .ref B.2.1), (1, .ref o), (2, .ref w), (3, .int v3)] []) : kv_V y_Law_law d B Q kc ks n S I 312 [(0, .ref B.2.1), (1, .ref o), (2, .ref w), (3, .int v3)] [] := by
  obtain ⟨ru, tab, len, tb, σ, h1, h2, h3, h4, h5, h6⟩ := hR
  refine bp_Law_law_312 (dc := 8) hi1 hi2 hi3 hS.1 (c_Cb_insert (by omega) _ _ _ hS h2) (by omega) (fun v J hv => ?_)
  obtain ⟨rfl, f1, f2⟩ := hv
  refine bp_Law_law_331 (dc := 8) hi1 hi2 hi3 hM.1 (c_Md_insert (by omega) _ _ _ hM (kRl_M hw (by omega) f1 h3)) (by omega) (fun v L hv => ?_)
  obtain ⟨rfl, g1, g2⟩ := hv
  exact bl_Law_law_350 (fun _ => K L ⟨_, _, _, _, _, h1, kRl_C hw g1.1 f2, g2, kRl_T hw g1.1 (kRl_U f1 h4), StM_K (kRl_S hw (by omega) f1 h5) g1, h6⟩) (fun h => absurd rfl h)
theorem lwc_remove {d : Nat} {B : kv_B} {Q : kv_Q} {kc ks n : Nat} {S : kv_SM} {I : kv_IM} {o w : Nat} {v3 : Int32} {j1 j2 j3 : Nat} (hd : 9 ≤ d) (hw : o + 61 < w) (hS : CbS S o) (hM : MdS S w) (hR : kRel I o w) (hi1 : v3 + 1 = nI j1 ∧ j1 < B.2.2.1 ∧ B.2.2.1 < 2 ^ 31) (hi2 : v3 + 2 = nI j2 ∧ j2 < B.2.2.1 ∧ B.2.2.1 < 2 ^ 31) (hi3 : v3 + 3 = nI j3 ∧ j3 < B.2.2.1 ∧ B.2.2.1 < 2 ^ 31) (K : ∀ J, kRel J o w → kv_V y_Law_law d B Q kc ks n S J 842 [(0, .ref B.2.1), (1, .ref o), (2, .ref w), (3, .int v3)] []) : kv_V y_Law_law d B Q kc ks n S I 355 [(0, .ref B.2.1), (1, .ref o), (2, .ref w), (3, .int v3)] [] := by
  obtain ⟨ru, tab, len, tb, σ, h1, h2, h3, h4, h5, h6⟩ := hR
  refine bp_Law_law_355 (dc := 8) hi1 hi2 hi3 hS.1 (c_Cb_remove (by omega) _ _ _ hS h2) (by omega) (fun v J hv => ?_)
  obtain ⟨rfl, f1, f2⟩ := hv
  refine bp_Law_law_374 (dc := 8) hi1 hi2 hi3 hM.1 (c_Md_remove (by omega) _ _ _ hM (kRl_M hw (by omega) f1 h3)) (by omega) (fun v L hv => ?_)
  obtain ⟨rfl, g1, g2⟩ := hv
  exact bl_Law_law_393 (fun _ => K L ⟨_, _, _, _, _, h1, kRl_C hw g1.1 f2, g2, kRl_T hw g1.1 (kRl_U f1 h4), StM_K (kRl_S hw (by omega) f1 h5) g1, h6⟩) (fun h => absurd rfl h)
theorem lwc_copy {d : Nat} {B : kv_B} {Q : kv_Q} {kc ks n : Nat} {S : kv_SM} {I : kv_IM} {o w : Nat} {v3 : Int32} {j1 j2 : Nat} (hd : 9 ≤ d) (hw : o + 61 < w) (hS : CbS S o) (hM : MdS S w) (hR : kRel I o w) (hi1 : v3 + 1 = nI j1 ∧ j1 < B.2.2.1 ∧ B.2.2.1 < 2 ^ 31) (hi2 : v3 + 2 = nI j2 ∧ j2 < B.2.2.1 ∧ B.2.2.1 < 2 ^ 31) (K : ∀ J, kRel J o w → kv_V y_Law_law d B Q kc ks n S J 842 [(0, .ref B.2.1), (1, .ref o), (2, .ref w), (3, .int v3)] []) : kv_V y_Law_law d B Q kc ks n S I 398 [(0, .ref B.2.1), (1, .ref o), (2, .ref w), (3, .int v3)] [] := by
  obtain ⟨ru, tab, len, tb, σ, h1, h2, h3, h4, h5, h6⟩ := hR
  refine bp_Law_law_398 (dc := 8) hi1 hi2 hS.1 (c_Cb_copy (by omega) _ _ hS h2) (by omega) (fun v J hv => ?_)
  obtain ⟨rfl, f1, f2⟩ := hv
  refine bp_Law_law_412 (dc := 8) hi1 hi2 hM.1 (c_Md_copy (by omega) _ _ hM (kRl_M hw (by omega) f1 h3)) (by omega) (fun v L hv => ?_)
  obtain ⟨rfl, g1, g2⟩ := hv
  exact bl_Law_law_426 (fun _ => K L ⟨_, _, _, _, _, h1, kRl_C hw g1.1 f2, g2, kRl_T hw g1.1 (kRl_U f1 h4), StM_K (kRl_S hw (by omega) f1 h5) g1, h6⟩) (fun h => absurd rfl h)
theorem lwc_size {d : Nat} {B : kv_B} {Q : kv_Q} {kc ks n : Nat} {S : kv_SM} {I : kv_IM} {o w : Nat} {v3 : Int32} {j1 : Nat} (hd : 9 ≤ d) (hw : o + 61 < w) (hS : CbS S o) (hM : MdS S w) (hR : kRel I o w) (hi1 : v3 + 1 = nI j1 ∧ j1 < B.2.2.1 ∧ B.2.2.1 < 2 ^ 31) (K : ∀ J, kRel J o w → kv_V y_Law_law d B Q kc ks n S J 842 [(0, .ref B.2.1), (1, .ref o), (2, .ref w), (3, .int v3)] []) : kv_V y_Law_law d B Q kc ks n S I 431 [(0, .ref B.2.1), (1, .ref o), (2, .ref w), (3, .int v3)] [] := by
  obtain ⟨ru, tab, len, tb, σ, h1, h2, h3, h4, h5, h6⟩ := hR
  refine bp_Law_law_431 (dc := 8) hi1 hS.1 (c_Cb_size (by omega) _ hS h2) (by omega) (fun v J hv => ?_)
  obtain ⟨rfl, rfl⟩ := hv
  refine bp_Law_law_440 (dc := 8) hi1 hM.1 (c_Md_size (by omega) _ hM h3) (by omega) (fun v L hv => ?_)
  obtain ⟨rfl, g1, g2⟩ := hv
  exact bl_Law_law_449 (fun _ => K L ⟨_, _, _, _, _, h1, kRl_C hw g1.1 h2, g2, kRl_T hw g1.1 h4, StM_K h5 g1, h6⟩) (fun h => absurd rfl h)
theorem lwc_byteAt {d : Nat} {B : kv_B} {Q : kv_Q} {kc ks n : Nat} {S : kv_SM} {I : kv_IM} {o w : Nat} {v3 : Int32} {j1 j2 : Nat} (hd : 9 ≤ d) (hw : o + 61 < w) (hS : CbS S o) (hM : MdS S w) (hR : kRel I o w) (hi1 : v3 + 1 = nI j1 ∧ j1 < B.2.2.1 ∧ B.2.2.1 < 2 ^ 31) (hi2 : v3 + 2 = nI j2 ∧ j2 < B.2.2.1 ∧ B.2.2.1 < 2 ^ 31) (K : ∀ J, kRel J o w → kv_V y_Law_law d B Q kc ks n S J 842 [(0, .ref B.2.1), (1, .ref o), (2, .ref w), (3, .int v3)] []) : kv_V y_Law_law d B Q kc ks n S I 454 [(0, .ref B.2.1), (1, .ref o), (2, .ref w), (3, .int v3)] [] := by
  obtain ⟨ru, tab, len, tb, σ, h1, h2, h3, h4, h5, h6⟩ := hR
  refine bp_Law_law_454 (dc := 8) hi1 hi2 hS.1 (c_Cb_byteAt (by omega) _ _ hS h2) (by omega) (fun v J hv => ?_)
  obtain ⟨rfl, rfl⟩ := hv
  refine bp_Law_law_468 (dc := 8) hi1 hi2 hM.1 (c_Md_byteAt (by omega) _ _ hM h3) (by omega) (fun v L hv => ?_)
  obtain ⟨rfl, g1, g2⟩ := hv
  exact bl_Law_law_482 (fun _ => K L ⟨_, _, _, _, _, h1, kRl_C hw g1.1 h2, g2, kRl_T hw g1.1 h4, StM_K h5 g1, h6⟩) (fun h => absurd rfl h)
theorem lwc_blocks {d : Nat} {B : kv_B} {Q : kv_Q} {kc ks n : Nat} {S : kv_SM} {I : kv_IM} {o w : Nat} {v3 : Int32} {j1 : Nat} (hd : 9 ≤ d) (hw : o + 61 < w) (hS : CbS S o) (hM : MdS S w) (hR : kRel I o w) (hi1 : v3 + 1 = nI j1 ∧ j1 < B.2.2.1 ∧ B.2.2.1 < 2 ^ 31) (K : ∀ J, kRel J o w → kv_V y_Law_law d B Q kc ks n S J 842 [(0, .ref B.2.1), (1, .ref o), (2, .ref w), (3, .int v3)] []) : kv_V y_Law_law d B Q kc ks n S I 487 [(0, .ref B.2.1), (1, .ref o), (2, .ref w), (3, .int v3)] [] := by
  obtain ⟨ru, tab, len, tb, σ, h1, h2, h3, h4, h5, h6⟩ := hR
  refine bp_Law_law_487 (dc := 8) hi1 hS.1 (c_Cb_blocks (by omega) _ hS h2 h1) (by omega) (fun v J hv => ?_)
  obtain ⟨rfl, f1, f2⟩ := hv
  refine bp_Law_law_496 (dc := 8) hi1 hM.1 (c_Md_blocks (by omega) _ hM (kRl_M hw (by omega) f1 h3) h1) (by omega) (fun v L hv => ?_)
  obtain ⟨rfl, g1, g2⟩ := hv
  exact bl_Law_law_505 (fun _ => K L ⟨_, _, _, _, _, h1, kRl_C hw g1.1 f2, g2, kRl_T hw g1.1 (kRl_U f1 h4), StM_K (kRl_S hw (by omega) f1 h5) g1, h6⟩) (fun h => absurd rfl h)
theorem lwc_block {d : Nat} {B : kv_B} {Q : kv_Q} {kc ks n : Nat} {S : kv_SM} {I : kv_IM} {o w : Nat} {v3 : Int32} {j1 j2 j3 : Nat} (hd : 9 ≤ d) (hw : o + 61 < w) (hS : CbS S o) (hM : MdS S w) (hR : kRel I o w) (hi1 : v3 + 1 = nI j1 ∧ j1 < B.2.2.1 ∧ B.2.2.1 < 2 ^ 31) (hi2 : v3 + 2 = nI j2 ∧ j2 < B.2.2.1 ∧ B.2.2.1 < 2 ^ 31) (hi3 : v3 + 3 = nI j3 ∧ j3 < B.2.2.1 ∧ B.2.2.1 < 2 ^ 31) (K : ∀ J, kRel J o w → kv_V y_Law_law d B Q kc ks n S J 842 [(0, .ref B.2.1), (1, .ref o), (2, .ref w), (3, .int v3)] []) : kv_V y_Law_law d B Q kc ks n S I 510 [(0, .ref B.2.1), (1, .ref o), (2, .ref w), (3, .int v3)] [] := by
  obtain ⟨ru, tab, len, tb, σ, h1, h2, h3, h4, h5, h6⟩ := hR
  refine bp_Law_law_510 (dc := 8) hi1 hi2 hi3 hS.1 (c_Cb_block (by omega) _ _ _ hS h2 h1) (by omega) (fun v J hv => ?_)
  obtain ⟨rfl, f1, f2⟩ := hv
  refine bp_Law_law_529 (dc := 8) hi1 hi2 hi3 hM.1 (c_Md_block (by omega) _ _ _ hM (kRl_M hw (by omega) f1 h3) h1) (by omega) (fun v L hv => ?_)
  obtain ⟨rfl, g1, g2⟩ := hv
  exact bl_Law_law_548 (fun _ => K L ⟨_, _, _, _, _, h1, kRl_C hw g1.1 f2, g2, kRl_T hw g1.1 (kRl_U f1 h4), StM_K (kRl_S hw (by omega) f1 h5) g1, h6⟩) (fun h => absurd rfl h)
theorem lwc_digest {d : Nat} {B : kv_B} {Q : kv_Q} {kc ks n : Nat} {S : kv_SM} {I : kv_IM} {o w : Nat} {v3 : Int32} {j1 j2 j3 : Nat} (hd : 9 ≤ d) (hw : o + 61 < w) (hS : CbS S o) (hM : MdS S w) (hR : kRel I o w) (hi1 : v3 + 1 = nI j1 ∧ j1 < B.2.2.1 ∧ B.2.2.1 < 2 ^ 31) (hi2 : v3 + 2 = nI j2 ∧ j2 < B.2.2.1 ∧ B.2.2.1 < 2 ^ 31) (hi3 : v3 + 3 = nI j3 ∧ j3 < B.2.2.1 ∧ B.2.2.1 < 2 ^ 31) (K : ∀ J, kRel J o w → kv_V y_Law_law d B Q kc ks n S J 842 [(0, .ref B.2.1), (1, .ref o), (2, .ref w), (3, .int v3)] []) : kv_V y_Law_law d B Q kc ks n S I 553 [(0, .ref B.2.1), (1, .ref o), (2, .ref w), (3, .int v3)] [] := by
  obtain ⟨ru, tab, len, tb, σ, h1, h2, h3, h4, h5, h6⟩ := hR
  refine bp_Law_law_553 (dc := 8) hi1 hi2 hi3 hS.1 (c_Cb_digest (by omega) _ _ _ hS h2 h1) (by omega) (fun v J hv => ?_)
  obtain ⟨rfl, f1, f2⟩ := hv
  refine bp_Law_law_572 (dc := 8) hi1 hi2 hi3 hM.1 (c_Md_digest (by omega) _ _ _ hM (kRl_M hw (by omega) f1 h3) h1) (by omega) (fun v L hv => ?_)
  obtain ⟨rfl, g1, g2⟩ := hv
  exact bl_Law_law_591 (fun _ => K L ⟨_, _, _, _, _, h1, kRl_C hw g1.1 f2, g2, kRl_T hw g1.1 (kRl_U f1 h4), StM_K (kRl_S hw (by omega) f1 h5) g1, h6⟩) (fun h => absurd kRl_cmp h)
theorem lwc_hash {d : Nat} {B : kv_B} {Q : kv_Q} {kc ks n : Nat} {S : kv_SM} {I : kv_IM} {o w : Nat} {v3 : Int32} {j1 j2 : Nat} (hd : 9 ≤ d) (hw : o + 61 < w) (hS : CbS S o) (hM : MdS S w) (hR : kRel I o w) (hi1 : v3 + 1 = nI j1 ∧ j1 < B.2.2.1 ∧ B.2.2.1 < 2 ^ 31) (hi2 : v3 + 2 = nI j2 ∧ j2 < B.2.2.1 ∧ B.2.2.1 < 2 ^ 31) (K : ∀ J, kRel J o w → kv_V y_Law_law d B Q kc ks n S J 842 [(0, .ref B.2.1), (1, .ref o), (2, .ref w), (3, .int v3)] []) : kv_V y_Law_law d B Q kc ks n S I 597 [(0, .ref B.2.1), (1, .ref o), (2, .ref w), (3, .int v3)] [] := by
  obtain ⟨ru, tab, len, tb, σ, h1, h2, h3, h4, h5, h6⟩ := hR
  refine bp_Law_law_597 (dc := 8) hi1 hi2 hS.1 (c_Cb_hash (by omega) _ _ hS h2 h1) (by omega) (fun v J hv => ?_)
  obtain ⟨rfl, f1, f2⟩ := hv
  refine bp_Law_law_611 (dc := 8) hi1 hi2 hM.1 (c_Md_hash (by omega) _ _ hM (kRl_M hw (by omega) f1 h3) h1) (by omega) (fun v L hv => ?_)
  obtain ⟨rfl, g1, g2⟩ := hv
  exact bl_Law_law_625 (fun _ => K L ⟨_, _, _, _, _, h1, kRl_C hw g1.1 f2, g2, kRl_T hw g1.1 (kRl_U f1 h4), StM_K (kRl_S hw (by omega) f1 h5) g1, h6⟩) (fun h => absurd kRl_cmp h)
theorem lwc_alike {d : Nat} {B : kv_B} {Q : kv_Q} {kc ks n : Nat} {S : kv_SM} {I : kv_IM} {o w : Nat} {v3 : Int32} {j1 j2 j3 : Nat} (hd : 9 ≤ d) (hw : o + 61 < w) (hS : CbS S o) (hM : MdS S w) (hR : kRel I o w) (hi1 : v3 + 1 = nI j1 ∧ j1 < B.2.2.1 ∧ B.2.2.1 < 2 ^ 31) (hi2 : v3 + 2 = nI j2 ∧ j2 < B.2.2.1 ∧ B.2.2.1 < 2 ^ 31) (hi3 : v3 + 3 = nI j3 ∧ j3 < B.2.2.1 ∧ B.2.2.1 < 2 ^ 31) (K : ∀ J, kRel J o w → kv_V y_Law_law d B Q kc ks n S J 842 [(0, .ref B.2.1), (1, .ref o), (2, .ref w), (3, .int v3)] []) : kv_V y_Law_law d B Q kc ks n S I 631 [(0, .ref B.2.1), (1, .ref o), (2, .ref w), (3, .int v3)] [] := by
  obtain ⟨ru, tab, len, tb, σ, h1, h2, h3, h4, h5, h6⟩ := hR
  refine bp_Law_law_631 (dc := 8) hi1 hi2 hi3 hS.1 (c_Cb_alike (by omega) _ _ _ hS h2 h1) (by omega) (fun v J hv => ?_)
  obtain ⟨rfl, f1, f2⟩ := hv
  refine bp_Law_law_650 (dc := 8) hi1 hi2 hi3 hM.1 (c_Md_alike (by omega) _ _ _ hM (kRl_M hw (by omega) f1 h3) h1) (by omega) (fun v L hv => ?_)
  obtain ⟨rfl, g1, g2⟩ := hv
  exact bl_Law_law_669 (fun _ => K L ⟨_, _, _, _, _, h1, kRl_C hw g1.1 f2, g2, kRl_T hw g1.1 (kRl_U f1 h4), StM_K (kRl_S hw (by omega) f1 h5) g1, h6⟩) (fun h => absurd rfl h)
theorem lwc_keep {d : Nat} {B : kv_B} {Q : kv_Q} {kc ks n : Nat} {S : kv_SM} {I : kv_IM} {o w : Nat} {v3 : Int32} {j1 : Nat} (hd : 9 ≤ d) (hw : o + 61 < w) (hS : CbS S o) (hM : MdS S w) (hR : kRel I o w) (hi1 : v3 + 1 = nI j1 ∧ j1 < B.2.2.1 ∧ B.2.2.1 < 2 ^ 31) (K : ∀ J, kRel J o w → kv_V y_Law_law d B Q kc ks n S J 842 [(0, .ref B.2.1), (1, .ref o), (2, .ref w), (3, .int v3)] []) : kv_V y_Law_law d B Q kc ks n S I 674 [(0, .ref B.2.1), (1, .ref o), (2, .ref w), (3, .int v3)] [] := by
  obtain ⟨ru, tab, len, tb, σ, h1, h2, h3, h4, h5, h6⟩ := hR
  refine bp_Law_law_674 (dc := 8) hi1 hS.1 (c_Cb_keep (by omega) _ hS h2 h1 h4 h6) (by omega) (fun v J hv => ?_)
  obtain ⟨rfl, f1, f2, f3⟩ := hv
  refine bp_Law_law_683 (dc := 8) hi1 hM.1 (c_Md_keep (by omega) _ hM (kRl_M hw (by omega) f1 h3) h1 (kRl_S hw (by omega) f1 h5) h6) (by omega) (fun v L hv => ?_)
  obtain ⟨rfl, g1, g2, g3⟩ := hv
  exact bl_Law_law_692 (fun _ => K L ⟨_, _, _, _, _, h1, kRl_C hw g1 f2, g2, kRl_T hw g1 f3, g3, StK_kp h2 h6⟩) (fun h => absurd rfl h)
theorem lwc_drop {d : Nat} {B : kv_B} {Q : kv_Q} {kc ks n : Nat} {S : kv_SM} {I : kv_IM} {o w : Nat} {v3 : Int32} {j1 : Nat} (hd : 9 ≤ d) (hw : o + 61 < w) (hS : CbS S o) (hM : MdS S w) (hR : kRel I o w) (hi1 : v3 + 1 = nI j1 ∧ j1 < B.2.2.1 ∧ B.2.2.1 < 2 ^ 31) (K : ∀ J, kRel J o w → kv_V y_Law_law d B Q kc ks n S J 842 [(0, .ref B.2.1), (1, .ref o), (2, .ref w), (3, .int v3)] []) : kv_V y_Law_law d B Q kc ks n S I 697 [(0, .ref B.2.1), (1, .ref o), (2, .ref w), (3, .int v3)] [] := by
  obtain ⟨ru, tab, len, tb, σ, h1, h2, h3, h4, h5, h6⟩ := hR
  refine bp_Law_law_697 (dc := 8) hi1 hS.1 (c_Cb_drop (by omega) _ hS h2 h4 h6) (by omega) (fun v J hv => ?_)
  obtain ⟨rfl, f1, f2, f3⟩ := hv
  refine bp_Law_law_706 (dc := 8) hi1 hM.1 (c_Md_drop (by omega) _ hM (kRl_M hw (by omega) f1 h3) (kRl_S hw (by omega) f1 h5) h6) (by omega) (fun v L hv => ?_)
  obtain ⟨rfl, g1, g2, g3⟩ := hv
  exact bl_Law_law_715 (fun _ => K L ⟨_, _, _, _, _, h1, kRl_C hw g1 f2, g2, kRl_T hw g1 f3, g3, StK_drop h6⟩) (fun h => absurd rfl h)
theorem lwc_restore {d : Nat} {B : kv_B} {Q : kv_Q} {kc ks n : Nat} {S : kv_SM} {I : kv_IM} {o w : Nat} {v3 : Int32} {j1 j2 : Nat} (hd : 9 ≤ d) (hw : o + 61 < w) (hS : CbS S o) (hM : MdS S w) (hR : kRel I o w) (hi1 : v3 + 1 = nI j1 ∧ j1 < B.2.2.1 ∧ B.2.2.1 < 2 ^ 31) (hi2 : v3 + 2 = nI j2 ∧ j2 < B.2.2.1 ∧ B.2.2.1 < 2 ^ 31) (K : ∀ J, kRel J o w → kv_V y_Law_law d B Q kc ks n S J 842 [(0, .ref B.2.1), (1, .ref o), (2, .ref w), (3, .int v3)] []) : kv_V y_Law_law d B Q kc ks n S I 720 [(0, .ref B.2.1), (1, .ref o), (2, .ref w), (3, .int v3)] [] := by
  obtain ⟨ru, tab, len, tb, ⟨c, p, f, u, th, z, g⟩, h1, h2, h3, h4, h5, h6⟩ := hR
  refine bp_Law_law_720 (dc := 8) hi1 hi2 hS.1 (c_Cb_restore (by omega) _ _ hS h2 h4 h6) (by omega) (fun v J hv => ?_)
  obtain ⟨rfl, f1, f2⟩ := hv
  refine bp_Law_law_734 (dc := 8) hi1 hi2 hM.1 (c_Md_restore (by omega) _ _ hM (kRl_M hw (by omega) f1 h3) (kRl_S hw (by omega) f1 h5) h6) (by omega) (fun v L hv => ?_)
  obtain ⟨rfl, g1, g2⟩ := hv
  exact bl_Law_law_748 (fun _ => K L ⟨_, _, _, _, _, h1, kRl_C hw g1.1 f2, g2, kRl_T hw g1.1 (kRl_U f1 h4), StM_K (kRl_S hw (by omega) f1 h5) g1, h6⟩) (fun h => absurd rfl h)
theorem lwc_told {d : Nat} {B : kv_B} {Q : kv_Q} {kc ks n : Nat} {S : kv_SM} {I : kv_IM} {o w : Nat} {v3 : Int32} {j1 j2 : Nat} (hd : 9 ≤ d) (hw : o + 61 < w) (hS : CbS S o) (hM : MdS S w) (hR : kRel I o w) (hi1 : v3 + 1 = nI j1 ∧ j1 < B.2.2.1 ∧ B.2.2.1 < 2 ^ 31) (hi2 : v3 + 2 = nI j2 ∧ j2 < B.2.2.1 ∧ B.2.2.1 < 2 ^ 31) (K : ∀ J, kRel J o w → kv_V y_Law_law d B Q kc ks n S J 842 [(0, .ref B.2.1), (1, .ref o), (2, .ref w), (3, .int v3)] []) : kv_V y_Law_law d B Q kc ks n S I 753 [(0, .ref B.2.1), (1, .ref o), (2, .ref w), (3, .int v3)] [] := by
  obtain ⟨ru, tab, len, tb, ⟨c, p, f, u, th, z, g⟩, h1, h2, h3, h4, h5, h6⟩ := hR
  refine bp_Law_law_753 (dc := 8) hi1 hi2 hS.1 (c_Cb_told (by omega) _ _ hS h4) (by omega) (fun v J hv => ?_)
  obtain ⟨rfl, rfl⟩ := hv
  refine bp_Law_law_767 (dc := 8) hi1 hi2 hM.1 (c_Md_told (by omega) _ _ hM h3 h5 h6) (by omega) (fun v L hv => ?_)
  obtain ⟨rfl, g1, g2⟩ := hv
  exact bl_Law_law_781 (fun _ => K L ⟨_, _, _, _, _, h1, kRl_C hw g1.1 h2, g2, kRl_T hw g1.1 h4, StM_K h5 g1, h6⟩) (fun h => absurd rfl h)
theorem lwc_uses {d : Nat} {B : kv_B} {Q : kv_Q} {kc ks n : Nat} {S : kv_SM} {I : kv_IM} {o w : Nat} {v3 : Int32} {j1 j2 : Nat} (hd : 9 ≤ d) (hw : o + 61 < w) (hS : CbS S o) (hM : MdS S w) (hR : kRel I o w) (hi1 : v3 + 1 = nI j1 ∧ j1 < B.2.2.1 ∧ B.2.2.1 < 2 ^ 31) (hi2 : v3 + 2 = nI j2 ∧ j2 < B.2.2.1 ∧ B.2.2.1 < 2 ^ 31) (K : ∀ J, kRel J o w → kv_V y_Law_law d B Q kc ks n S J 842 [(0, .ref B.2.1), (1, .ref o), (2, .ref w), (3, .int v3)] []) : kv_V y_Law_law d B Q kc ks n S I 786 [(0, .ref B.2.1), (1, .ref o), (2, .ref w), (3, .int v3)] [] := by
  obtain ⟨ru, tab, len, tb, ⟨c, p, f, u, th, z, g⟩, h1, h2, h3, h4, h5, h6⟩ := hR
  refine bp_Law_law_786 (dc := 8) hi1 hi2 hS.1 (c_Cb_uses (by omega) _ _ hS h2 h1 h4 h6) (by omega) (fun v J hv => ?_)
  obtain ⟨rfl, f1, f2⟩ := hv
  refine bp_Law_law_800 (dc := 8) hi1 hi2 hM.1 (c_Md_uses (by omega) _ _ hM (kRl_M hw (by omega) f1 h3) h1 (kRl_S hw (by omega) f1 h5) h6) (by omega) (fun v L hv => ?_)
  obtain ⟨rfl, g1, g2⟩ := hv
  exact bl_Law_law_814 (fun _ => K L ⟨_, _, _, _, _, h1, kRl_C hw g1.1 f2, g2, kRl_T hw g1.1 (kRl_U f1 h4), StM_K (kRl_S hw (by omega) f1 h5) g1, h6⟩) (fun h => absurd rfl h)
theorem lwc_kept {d : Nat} {B : kv_B} {Q : kv_Q} {kc ks n : Nat} {S : kv_SM} {I : kv_IM} {o w : Nat} {v3 : Int32} {j1 : Nat} (hd : 9 ≤ d) (hw : o + 61 < w) (hS : CbS S o) (hM : MdS S w) (hR : kRel I o w) (hi1 : v3 + 1 = nI j1 ∧ j1 < B.2.2.1 ∧ B.2.2.1 < 2 ^ 31) (K : ∀ J, kRel J o w → kv_V y_Law_law d B Q kc ks n S J 842 [(0, .ref B.2.1), (1, .ref o), (2, .ref w), (3, .int v3)] []) : kv_V y_Law_law d B Q kc ks n S I 819 [(0, .ref B.2.1), (1, .ref o), (2, .ref w), (3, .int v3)] [] := by
  obtain ⟨ru, tab, len, tb, ⟨c, p, f, u, th, z, g⟩, h1, h2, h3, h4, h5, h6⟩ := hR
  refine bp_Law_law_819 (dc := 8) hi1 hS.1 (c_Cb_kept (by omega) _ hS h4) (by omega) (fun v J hv => ?_)
  obtain ⟨rfl, rfl⟩ := hv
  refine bp_Law_law_828 (dc := 8) hi1 hM.1 (c_Md_kept (by omega) _ hM h3 h5 h6) (by omega) (fun v L hv => ?_)
  obtain ⟨rfl, g1, g2, g3⟩ := hv
  exact bl_Law_law_837 (fun _ => K L ⟨_, _, _, _, _, h1, kRl_C hw g1 h2, g2, kRl_T hw g1 h4, g3, h6⟩) (fun h => absurd rfl h)
theorem kLw_7 {N j : Nat} (hN : N < 2 ^ 31) (hj : j < 2 ^ 31) : (nI N - 7 < nI j) ↔ N < j + 7 := by
  by_cases h : 7 ≤ N
  · rw [show (7 : Int32) = nI 7 from rfl, pk_sub h, nI_ltI (by omega) hj]
    omega
  · have e : ∀ m, m < 7 → (nI m - 7).toInt < 0 := by decide +kernel
    have e1 := e N (by omega)
    refine ⟨fun _ => by omega, fun _ => ?_⟩
    rw [Int32.lt_iff_toInt_lt, nI_toInt hj]
    omega
theorem lwc_loop {d : Nat} {B : kv_B} {Q : kv_Q} {kc ks n : Nat} {S : kv_SM} {o w : Nat} (hd : 9 ≤ d) (hw : o + 61 < w) (hS : CbS S o) (hM : MdS S w) (hN : B.2.2.1 < 2 ^ 31) (hQ : ∀ I, Q (some (.int 1)) n S I) : ∀ (m j : Nat) (I : kv_IM), B.2.2.1 ≤ j + m → j ≤ B.2.2.1 → kRel I o w → kv_V y_Law_law d B Q kc ks n S I 18 [(0, .ref B.2.1), (1, .ref o), (2, .ref w), (3, .int (nI j))] [] := by
  intro m
  induction m with
  | zero =>
    intro j I h1 h2 hR
    exact bl_Law_law_18 (fun _ => bl_Law_law_848 (hQ I)) (fun q => absurd ((kLw_7 hN (by omega)).mpr (by omega)) q)
  | succ m ih =>
    intro j I h1 h2 hR
    refine bl_Law_law_18 (fun _ => bl_Law_law_848 (hQ I)) (fun q => ?_)
    have q7 : ¬ B.2.2.1 < j + 7 := fun h => q ((kLw_7 hN (by omega)).mpr h)
    have hi : ∀ k, k < 7 → nI j + nI k = nI (j + k) ∧ j + k < B.2.2.1 ∧ B.2.2.1 < 2 ^ 31 := fun k hk => ⟨nI_add j k, by omega, hN⟩
    have KK : ∀ J, kRel J o w → kv_V y_Law_law d B Q kc ks n S J 842 [(0, .ref B.2.1), (1, .ref o), (2, .ref w), (3, .int (nI j))] [] := by
      intro J hJ
      refine bl_Law_law_842 ?_
      rw [show nI j + 7 = nI (j + 7) from nI_add j 7]
      exact ih (j + 7) J (by omega) (by omega) hJ
    exact bl_Law_law_27 ⟨rfl, by omega, hN⟩
      (fun _ => lwc_seed hd hw hS hM hR (hi 1 (by omega)) KK)
      (fun _ => lwc_rule hd hw hS hM hR (hi 1 (by omega)) (hi 2 (by omega)) (hi 3 (by omega)) (hi 4 (by omega)) (hi 5 (by omega)) (hi 6 (by omega)) KK)
      (fun _ => lwc_add hd hw hS hM hR (hi 1 (by omega)) (hi 2 (by omega)) KK)
      (fun _ => lwc_fill hd hw hS hM hR (hi 1 (by omega)) (hi 2 (by omega)) (hi 3 (by omega)) (hi 4 (by omega)) KK)
      (fun _ => lwc_insert hd hw hS hM hR (hi 1 (by omega)) (hi 2 (by omega)) (hi 3 (by omega)) KK)
      (fun _ => lwc_remove hd hw hS hM hR (hi 1 (by omega)) (hi 2 (by omega)) (hi 3 (by omega)) KK)
      (fun _ => lwc_copy hd hw hS hM hR (hi 1 (by omega)) (hi 2 (by omega)) KK)
      (fun _ => lwc_size hd hw hS hM hR (hi 1 (by omega)) KK)
      (fun _ => lwc_byteAt hd hw hS hM hR (hi 1 (by omega)) (hi 2 (by omega)) KK)
      (fun _ => lwc_blocks hd hw hS hM hR (hi 1 (by omega)) KK)
      (fun _ => lwc_block hd hw hS hM hR (hi 1 (by omega)) (hi 2 (by omega)) (hi 3 (by omega)) KK)
      (fun _ => lwc_digest hd hw hS hM hR (hi 1 (by omega)) (hi 2 (by omega)) (hi 3 (by omega)) KK)
      (fun _ => lwc_hash hd hw hS hM hR (hi 1 (by omega)) (hi 2 (by omega)) KK)
      (fun _ => lwc_alike hd hw hS hM hR (hi 1 (by omega)) (hi 2 (by omega)) (hi 3 (by omega)) KK)
      (fun _ => lwc_keep hd hw hS hM hR (hi 1 (by omega)) KK)
      (fun _ => lwc_drop hd hw hS hM hR (hi 1 (by omega)) KK)
      (fun _ => lwc_restore hd hw hS hM hR (hi 1 (by omega)) (hi 2 (by omega)) KK)
      (fun _ => lwc_told hd hw hS hM hR (hi 1 (by omega)) (hi 2 (by omega)) KK)
      (fun _ => lwc_uses hd hw hS hM hR (hi 1 (by omega)) (hi 2 (by omega)) KK)
      (fun _ => lwc_kept hd hw hS hM hR (hi 1 (by omega)) KK)
      (fun _ => KK I hR)
