section KVM
variable {y : kv_M} {d : Nat} {B : kv_B} {Q : kv_Q} {kc ks n : Nat} {S : kv_SM} {I : kv_IM} {pc : Nat} {L : List (Nat × Value)} {st : List Value}
theorem kv_newZ {x : Int32} (N : Nat) (harr : Cond.arrayClass .boolean ∈ kv_tb) (hd : decode y.2.2.1 pc = .ok (.newarray .boolean, 2)) (hx : x = nI N) (hN : N < 100000000) (h1 : 1 ≤ kc) (h2 : N ≤ ks)
    (kk : kv_V y d B Q (kc - 1) (ks - N) (n + 1) (kv_su S (B.1 + n) (kZ N)) (kv_iu I (B.1 + n) (fun _ => 0)) (pc + 2) L (.ref (B.1 + n) :: st)) : kv_V y d B Q kc ks n S I pc L (.int x :: st) := by
  intro p l e R s m args below meth c D cA Z mc ms C H locs cells slots ls hR hH hq' hc hs hl
  obtain ⟨k1, k2, k3, k4, hts, hnw, hK, ⟨kd1, kd2, kd3, kd4⟩, -, ⟨kb, kX⟩, -⟩ := id C
  subst hx
  refine va_newaK C.1 C.2.1 (atype := .boolean) (hts _ harr) rfl hd rfl (nI_pos (by omega)) (N := N) (nI_clamp (by omega)) (by show N * 1 ≤ 536870912; omega) (by omega) (by omega) hR.1 fun H1 cA' e1 z1 o1 hAr hNm => ?_
  have hcA : cA' = cA 1 := by
    have h3 : s.vm.findClass ("[" ++ FieldType.boolean.toString) = some (cA 1) := (hK.2 1 _ rfl).2
    exact Option.some.inj (hNm.symm.trans h3)
  subst hcA
  refine kk p l e R s m args below meth c D cA Z mc ms C H1 locs (cells + 1) (slots + N) ls (hR.push z1 o1 e1) ?_ hq' (by omega) (by omega) hl
  rw [o1 _ (by omega)]
  exact hH
theorem kv_table {dflt hi : Int} {offs : Array Int} {len : Nat} (N : Nat) {x : Int32} (dt : Nat) (hd : decode y.2.2.1 pc = .ok (.tableswitch dflt 0 hi offs, len)) (hN : hi + 1 = (N : Int)) (hN2 : N < 1000)
    (kin : ∀ k : Nat, k < N → x = nI k → ∃ (off : Int) (tgt : Nat), offs[k]? = some off ∧ (pc : Int) + off = (tgt : Int) ∧ kv_V y d B Q kc ks n S I tgt L st) (ht : (pc : Int) + dflt = (dt : Int)) (kd : (∀ k : Nat, k < N → ¬ x = nI k) → kv_V y d B Q kc ks n S I dt L st) : kv_V y d B Q kc ks n S I pc L (.int x :: st) := by
  by_cases h0 : x < 0
  · refine kv_tableOut dt hd (Or.inl ?_) ht (kd fun k hk hx => ?_)
    · have := Int32.lt_iff_toInt_lt.mp h0
      simpa using this
    · rw [hx] at h0
      exact nI_pos (by omega) h0
  · obtain ⟨j, hj, hx⟩ := nI_of h0
    have hjI := nI_toInt hj
    by_cases hjN : j < N
    · obtain ⟨off, tgt, g1, g2, g3⟩ := kin j hjN hx
      refine kv_tableIn tgt hd ?_ ?_ (off := off) ?_ g2 g3
      · rw [hx, hjI]; omega
      · rw [hx, hjI]; omega
      · rw [hx, hjI]
        have : ((j : Int) - 0).toNat = j := by omega
        rw [this]
        exact g1
    · refine kv_tableOut dt hd (Or.inr ?_) ht (kd fun k hk hxk => ?_)
      · rw [hx, hjI]; omega
      · have := (nI_eq hj (by omega : k < 2 ^ 31)).mp (hx.symm.trans hxk)
        omega
end KVM
