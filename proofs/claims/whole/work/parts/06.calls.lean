def kv_LB (yc : kv_M) (N : Nat) : Prop := Cond.code yc.2.1 yc.2.2.1 yc.2.2.2.1 yc.2.2.2.2 ∈ kv_tb ∧ Cond.initialized yc.2.1.cls ∈ kv_tb ∧ (yc.2.1.cls ≠ "java/lang/invoke/MethodHandle" ∧ yc.2.1.cls ≠ "java/lang/invoke/VarHandle") ∧ ((parseMethodDescriptor yc.2.1.desc).map (fun d => d.parameters.length) = some N) ∧ yc.2.2.2.1 ≤ 17
def kv_LK (own : String) (idx : Nat) (yc : kv_M) : Prop := Cond.methodLink own idx yc.2.1 ∈ kv_tb ∨ ∃ host, Cond.methodLinkNest own idx yc.2.1 host ∈ kv_nw
def kv_LS (own : String) (idx : Nat) (yc : kv_M) (N : Nat) : Prop := kv_LB yc N ∧ kv_LK own idx yc ∧ Cond.static yc.2.1 ∈ kv_tb
def kv_LV (own : String) (idx : Nat) (yc : kv_M) (N ci : Nat) : Prop := kv_LB yc N ∧ kv_LK own idx yc ∧ Cond.instanceMethod yc.2.1 ∈ kv_tb ∧ ∃ (q : vw_C), vwCl[ci]? = some q ∧ Cond.selects q.1 yc.2.1 yc.2.1 ∈ kv_tb
def kv_LI (own : String) (idx : Nat) (yc : kv_M) (N : Nat) : Prop := kv_LB yc N ∧ kv_LK own idx yc ∧ Cond.instanceMethod yc.2.1 ∈ kv_tb ∧ yc.2.1.name = "<init>" ∧ yc.2.2.2.2 = none
theorem kv_arity {ds : String} {N : Nat} (h : (parseMethodDescriptor ds).map (fun d => d.parameters.length) = some N) : ∀ sig, parseMethodDescriptor ds = some sig → N = sig.parameters.length := by
  intro sig hs
  rw [hs] at h
  exact (Option.some.inj h).symm
theorem kv_wd_good {yc : kv_M} (h : Cond.code yc.2.1 yc.2.2.1 yc.2.2.2.1 yc.2.2.2.2 ∈ kv_tb) : GoodIn kv_tb (kv_wd yc) := by
  intro w hw
  rcases List.mem_cons.mp hw with rfl | hw
  · exact kv_tb_good _ h
  · exact kv_tb_good _ hw
section KVC
variable {y : kv_M} {d : Nat} {B : kv_B} {Q : kv_Q} {kc ks n : Nat} {S : kv_SM} {I : kv_IM} {pc : Nat} {L : List (Nat × Value)} {st : List Value}
theorem kv_runW {p : Program} {l : Launch} {e : Env} {R : Room} {s : State} {m : MethodId} {args : Array Value} {below : List Frame} {meth : Method} {c : Code} {D : va_G} {cA : Nat → ClassId} {Z : State → Prop} {mc ms : Nat} {H : Heap} {locs : List Loc} {cells slots kcc ksc : Nat} {ls : Array Slot} {st0 rest : List Value} {Qy : kv_Q} {a : Array Value} (C : kv_C y d B Q p l e R s m args below meth c D cA Z mc ms) (hH : H[B.2.1]? = s.heap[B.2.1]?) (hq' : ∀ q ∈ locs, B.1 ≤ q.base) (hc : cells + kc ≤ mc) (hs : slots + ks ≤ ms) (hl : lv_has ls y.2.2.2.1 L) (h1 : kcc ≤ kc) (h2 : ksc ≤ ks)
    (hr : va_Run p l e R s m args below meth c H locs cells slots kcc ksc (F0 m pc ls st0) rest (kv_Qc B Qy D cA a) (fun q => B.1 ≤ q))
    (kk : ∀ v n' S' I', Qy v n' S' I' → kv_V y d B Q (kc - kcc) (ks - ksc) n' S' I' (pc + 3) L (v.toList ++ rest)) : W p l e R s m args below meth c H locs cells slots Z (F0 m pc ls st0) := by
  intro T hT X
  obtain ⟨v, st₀, t, T', LL, h0, X', hL, e1, e2, ⟨v', n', S', I', hv, hQ, hR', hH'⟩, stp⟩ := hr T hT X
  cases hv
  have hK := kk v n' S' I' hQ p l e R s m args below meth c D cA Z mc ms C T'.heap (locs ++ LL) (cells + kcc) (slots + ksc) ls (by rw [e1]; exact hR') (by rw [e1, hH', h0]; exact hH) (fun q hq => by
    rcases List.mem_append.mp hq with h | h
    · exact hq' q h
    · exact hL q h) (by omega) (by omega) hl
  obtain ⟨t2, a1, b1⟩ := hK T' rfl X'
  exact ⟨t2, stp t2 a1, b1⟩
theorem kv_callS {yc : kv_M} {idx dc kcc ksc : Nat} (As rest : List Value) {Qy : kv_Q} (hlk : kv_LS y.1 idx yc As.length) (hM : kv_T yc dc kcc ksc B As n S I Qy) (hd : decode y.2.2.1 pc = .ok (.invokestatic idx, 3)) (hst : st = As.reverse ++ rest) (hdep : dc + 1 ≤ d) (hw : (rest.map fun v => v.category).sum ≤ 8) (h1 : kcc ≤ kc) (h2 : ksc ≤ ks)
    (kk : ∀ v n' S' I', Qy v n' S' I' → kv_V y d B Q (kc - kcc) (ks - ksc) n' S' I' (pc + 3) L (v.toList ++ rest)) : kv_V y d B Q kc ks n S I pc L st := by
  intro p l e R s m args below meth c D cA Z mc ms C H locs cells slots ls hR hH hq' hc hs hl
  obtain ⟨⟨g1, g2, g3, g4, g5⟩, glk, gst⟩ := hlk
  obtain ⟨k1, k2, k3, k4, hts, hnw, hK, ⟨kd1, kd2, kd3, kd4⟩, -, ⟨kb, kX⟩, -⟩ := id C
  have hpre : PreS s H (kv_Pc As B n S I D cA) As := ⟨kv_Pc_blind, fun U hU hW => kv_Pc_at hU hW hK hR hnw kb kX hH⟩
  refine kv_runW C hH hq' hc hs hl h1 h2 (a := As.toArray) (rest := rest) ?_ kk
  rcases glk with glk | ⟨host, glk⟩
  · exact va_runS (bytes := yc.2.2.1) (maxL := yc.2.2.2.1) (ret := yc.2.2.2.2) ⟨k1, k2, k3, k4, hts⟩ (hM l D cA) ⟨⟨rfl, rfl, by show dc + 1 ≤ _; omega, by show 8 + (_ + 11) + 36 * dc ≤ _; omega, pay_in hts (kv_wd_good g1), List.mem_cons_self, hts _ g1, hts _ g2, g3, kv_arity g4, hts _ glk⟩, hts _ gst⟩ hpre rfl rfl hl.1 hst (lv_room hw) hd ⟨by omega, by omega⟩
  · exact va_runSN (bytes := yc.2.2.1) (maxL := yc.2.2.2.1) (ret := yc.2.2.2.2) ⟨k1, k2, k3, k4, hts⟩ (hM l D cA) ⟨⟨⟨rfl, rfl, by show dc + 1 ≤ _; omega, by show 8 + (_ + 11) + 36 * dc ≤ _; omega, pay_in hts (kv_wd_good g1), List.mem_cons_self⟩, hts _ g1, hts _ g2, g3, kv_arity g4, va_Nw.use rfl (hnw.1 _ glk)⟩, hts _ gst, trivial⟩ hpre rfl rfl hl.1 hst (lv_room hw) hd ⟨by omega, by omega⟩
theorem kv_callV {yc : kv_M} {idx dc kcc ksc ci b : Nat} {r : Nat → Option Nat} (As rest : List Value) {Qy : kv_Q} (hlk : kv_LV y.1 idx yc As.length ci) (hS : S b = kO ci r) (hM : kv_T yc dc kcc ksc B (.ref b :: As) n S I Qy) (hd : decode y.2.2.1 pc = .ok (.invokevirtual idx, 3)) (hst : st = As.reverse ++ .ref b :: rest) (hdep : dc + 1 ≤ d) (hw : (rest.map fun v => v.category).sum ≤ 8) (h1 : kcc ≤ kc) (h2 : ksc ≤ ks)
    (kk : ∀ v n' S' I', Qy v n' S' I' → kv_V y d B Q (kc - kcc) (ks - ksc) n' S' I' (pc + 3) L (v.toList ++ rest)) : kv_V y d B Q kc ks n S I pc L st := by
  intro p l e R s m args below meth c D cA Z mc ms C H locs cells slots ls hR hH hq' hc hs hl
  obtain ⟨⟨g1, g2, g3, g4, g5⟩, glk, gin, q, gq, gsel⟩ := hlk
  obtain ⟨k1, k2, k3, k4, hts, hnw, hK, ⟨kd1, kd2, kd3, kd4⟩, -, ⟨kb, kX⟩, -⟩ := id C
  obtain ⟨i1, i2⟩ := hR.inO hS
  have he : (kv_ws B.1 n cA S I)[b - B.1]? = some (b, .inr (ci, kv_fs (kv_flags ci) r (I b))) := by
    have h := kv_ws_get (cA := cA) (S := S) (I := I) i1 i2
    rw [hS] at h
    exact h
  have hpre : PreV s H q.1 b (kv_Pc (.ref b :: As) B n S I D cA) As := ⟨kv_Pc_blind, va_recv hK hR.2.1 gq he, fun U hU hW => kv_Pc_at hU hW hK hR hnw kb kX hH⟩
  refine kv_runW C hH hq' hc hs hl h1 h2 (a := (Value.ref b :: As).toArray) (rest := rest) ?_ kk
  rcases glk with glk | ⟨host, glk⟩
  · exact va_runV (bytes := yc.2.2.1) (maxL := yc.2.2.2.1) (ret := yc.2.2.2.2) ⟨k1, k2, k3, k4, hts⟩ (hM l D cA) ⟨⟨rfl, rfl, by show dc + 1 ≤ _; omega, by show 8 + (_ + 11) + 36 * dc ≤ _; omega, pay_in hts (kv_wd_good g1), List.mem_cons_self, hts _ g1, hts _ g2, g3, kv_arity g4, hts _ glk⟩, hts _ gin, hts _ gsel⟩ hpre rfl rfl hl.1 hst (lv_room hw) hd ⟨by omega, by omega⟩
  · exact va_runVN (bytes := yc.2.2.1) (maxL := yc.2.2.2.1) (ret := yc.2.2.2.2) ⟨k1, k2, k3, k4, hts⟩ (hM l D cA) ⟨⟨⟨rfl, rfl, by show dc + 1 ≤ _; omega, by show 8 + (_ + 11) + 36 * dc ≤ _; omega, pay_in hts (kv_wd_good g1), List.mem_cons_self⟩, hts _ g1, hts _ g2, g3, kv_arity g4, va_Nw.use rfl (hnw.1 _ glk)⟩, hts _ gin, hts _ gsel⟩ hpre rfl rfl hl.1 hst (lv_room hw) hd ⟨by omega, by omega⟩
theorem kv_callI {yc : kv_M} {idx dc kcc ksc b : Nat} (As rest : List Value) {Qy : kv_Q} (hlk : kv_LI y.1 idx yc As.length) (hM : kv_T yc dc kcc ksc B (.ref b :: As) n S I Qy) (hd : decode y.2.2.1 pc = .ok (.invokespecial idx, 3)) (hst : st = As.reverse ++ .ref b :: rest) (hdep : dc + 1 ≤ d) (hw : (rest.map fun v => v.category).sum ≤ 8) (h1 : kcc ≤ kc) (h2 : ksc ≤ ks)
    (kk : ∀ v n' S' I', Qy v n' S' I' → kv_V y d B Q (kc - kcc) (ks - ksc) n' S' I' (pc + 3) L (v.toList ++ rest)) : kv_V y d B Q kc ks n S I pc L st := by
  intro p l e R s m args below meth c D cA Z mc ms C H locs cells slots ls hR hH hq' hc hs hl
  obtain ⟨⟨g1, g2, g3, g4, g5⟩, glk, gin, gnm, grt⟩ := hlk
  obtain ⟨k1, k2, k3, k4, hts, hnw, hK, ⟨kd1, kd2, kd3, kd4⟩, -, ⟨kb, kX⟩, -⟩ := id C
  rw [grt] at g1
  have hpre : PreS s H (kv_Pc (.ref b :: As) B n S I D cA) (.ref b :: As) := ⟨kv_Pc_blind, fun U hU hW => kv_Pc_at hU hW hK hR hnw kb kX hH⟩
  have hgd : GoodIn kv_tb (kv_wd yc) := kv_wd_good (by rw [grt]; exact g1)
  have hcd : Cond.code yc.2.1 yc.2.2.1 yc.2.2.2.1 none ∈ kv_wd yc := by unfold kv_wd; rw [grt]; exact List.mem_cons_self
  refine kv_runW C hH hq' hc hs hl h1 h2 (a := (Value.ref b :: As).toArray) (rest := rest) ?_ kk
  rcases glk with glk | ⟨host, glk⟩
  · exact va_runI (bytes := yc.2.2.1) (maxL := yc.2.2.2.1) ⟨k1, k2, k3, k4, hts⟩ (hM l D cA) ⟨⟨rfl, rfl, by show dc + 1 ≤ _; omega, by show 8 + (_ + 11) + 36 * dc ≤ _; omega, pay_in hts hgd, hcd, hts _ g1, hts _ g2, g3, kv_arity g4, hts _ glk⟩, gnm, hts _ gin⟩ hpre rfl rfl hl.1 hst (lv_room hw) hd ⟨by omega, by omega⟩
  · exact va_runIN (bytes := yc.2.2.1) (maxL := yc.2.2.2.1) ⟨k1, k2, k3, k4, hts⟩ (hM l D cA) ⟨⟨⟨rfl, rfl, by show dc + 1 ≤ _; omega, by show 8 + (_ + 11) + 36 * dc ≤ _; omega, pay_in hts hgd, hcd⟩, hts _ g1, hts _ g2, g3, kv_arity g4, va_Nw.use rfl (hnw.1 _ glk)⟩, gnm, hts _ gin⟩ hpre rfl rfl hl.1 hst (lv_room hw) hd ⟨by omega, by omega⟩
theorem kv_objInit {idx a : Nat} (h1 : Cond.methodLink y.1 idx objectInit ∈ kv_tb) (h2 : Cond.instanceMethod objectInit ∈ kv_tb) (h3 : Cond.code objectInit ⟨#[0xb1]⟩ 1 none ∈ kv_tb) (hd : decode y.2.2.1 pc = .ok (.invokespecial idx, 3)) (hdep : 1 ≤ d) (hw : (st.map fun v => v.category).sum ≤ 8)
    (kk : kv_V y d B Q kc ks n S I (pc + 3) L st) : kv_V y d B Q kc ks n S I pc L (.ref a :: st) := by
  intro p l e R s m args below meth c D cA Z mc ms C H locs cells slots ls hR hH hq' hc hs hl
  obtain ⟨k1, k2, k3, k4, hts, hnw, hK, ⟨kd1, kd2, kd3, kd4⟩, -, ⟨kb, kX⟩, -⟩ := id C
  refine W.objInit C.1 C.2.1 k4 (hts _ h1) (hts _ h2) (hts _ h3) rfl (by rw [k3]; exact hl.1) rfl hd (by omega) (by show 2 * 0 + _ + 12 ≤ _; omega) ?_
  exact kk p l e R s m args below meth c D cA Z mc ms C H locs cells slots ls hR hH hq' hc hs hl
theorem kv_mmin {idx : Nat} {x z : Int32} (h1 : Cond.methodLink y.1 idx Lib.Math.min.name ∈ kv_tb) (h2 : Cond.static Lib.Math.min.name ∈ kv_tb) (h3 : Cond.initialized "java/lang/Math" ∈ kv_tb) (h4 : Cond.code Lib.Math.min.name Lib.Math.min.code 2 (some .int) ∈ kv_tb) (hd : decode y.2.2.1 pc = .ok (.invokestatic idx, 3)) (hdep : 1 ≤ d) (hw : (st.map fun v => v.category).sum ≤ 8)
    (kk : kv_V y d B Q kc ks n S I (pc + 3) L (.int (if z < x then z else x) :: st)) : kv_V y d B Q kc ks n S I pc L (.int z :: .int x :: st) := by
  intro p l e R s m args below meth c D cA Z mc ms C H locs cells slots ls hR hH hq' hc hs hl
  obtain ⟨k1, k2, k3, k4, hts, hnw, hK, ⟨kd1, kd2, kd3, kd4⟩, -, ⟨kb, kX⟩, -⟩ := id C
  exact va_mmin C.1 C.2.1 (by rw [k3]; exact hl.1.symm) k4 (hts _ h1) (hts _ h2) (hts _ h3) (hts _ h4) (by omega) (by omega) (by omega) (by omega) hd (kk p l e R s m args below meth c D cA Z mc ms C H locs cells slots ls hR hH hq' hc hs hl)
theorem kv_mmax {idx : Nat} {x z : Int32} (h1 : Cond.methodLink y.1 idx Lib.Math.max.name ∈ kv_tb) (h2 : Cond.static Lib.Math.max.name ∈ kv_tb) (h3 : Cond.initialized "java/lang/Math" ∈ kv_tb) (h4 : Cond.code Lib.Math.max.name Lib.Math.max.code 2 (some .int) ∈ kv_tb) (hd : decode y.2.2.1 pc = .ok (.invokestatic idx, 3)) (hdep : 1 ≤ d) (hw : (st.map fun v => v.category).sum ≤ 8)
    (kk : kv_V y d B Q kc ks n S I (pc + 3) L (.int (if x < z then z else x) :: st)) : kv_V y d B Q kc ks n S I pc L (.int z :: .int x :: st) := by
  intro p l e R s m args below meth c D cA Z mc ms C H locs cells slots ls hR hH hq' hc hs hl
  obtain ⟨k1, k2, k3, k4, hts, hnw, hK, ⟨kd1, kd2, kd3, kd4⟩, -, ⟨kb, kX⟩, -⟩ := id C
  exact va_mmax C.1 C.2.1 (by rw [k3]; exact hl.1.symm) k4 (hts _ h1) (hts _ h2) (hts _ h3) (hts _ h4) (by omega) (by omega) (by omega) (by omega) hd (kk p l e R s m args below meth c D cA Z mc ms C H locs cells slots ls hR hH hq' hc hs hl)
end KVC
