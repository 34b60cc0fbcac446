abbrev kv_Sh : Type := (Nat × Nat) ⊕ (Nat × Nat × (Nat → Option Nat)) ⊕ (Nat × (Nat → Option Nat))
abbrev kv_SM : Type := Nat → kv_Sh
abbrev kv_IM : Type := Nat → Nat → Int32
abbrev kv_B : Type := Nat × Nat × Nat × (Nat → Int32)
abbrev kv_M : Type := String × MethodName × ByteArray × Nat × Option FieldType
abbrev kv_Q : Type := Option Value → Nat → kv_SM → kv_IM → Prop
abbrev kI (n : Nat) : kv_Sh := .inl (0, n)
abbrev kZ (n : Nat) : kv_Sh := .inl (1, n)
abbrev kA (c n : Nat) (r : Nat → Option Nat) : kv_Sh := .inr (.inl (c, n, r))
abbrev kO (c : Nat) (r : Nat → Option Nat) : kv_Sh := .inr (.inr (c, r))
def kv_up (I : kv_IM) (a k : Nat) (x : Int32) : kv_IM := fun a' k' => if a' = a then (if k' = k then x else I a' k') else I a' k'
def kv_cp (I : kv_IM) (a0 a1 sp dp n : Nat) : kv_IM := fun a k => if a = a1 then va_cpy (I a0) (I a1) sp dp n k else I a k
def kv_su (S : kv_SM) (a : Nat) (x : kv_Sh) : kv_SM := fun a' => if a' = a then x else S a'
def kv_iu (I : kv_IM) (a : Nat) (f : Nat → Int32) : kv_IM := fun a' => if a' = a then f else I a'
def kv_ru (r : Nat → Option Nat) (k : Nat) (v : Option Nat) : Nat → Option Nat := fun j => if j = k then v else r j
def kv_fs (fl : List Bool) (r : Nat → Option Nat) (f : Nat → Int32) : List Value := (List.range fl.length).map (fun k => if fl.getD k false = true then va_rf (r k) else .int (f k))
def kv_e (cA : Nat → ClassId) (x : kv_Sh) (f : Nat → Int32) : va_E := match x with
  | .inl q => .inl (cA q.1, q.2, .inl f)
  | .inr (.inl q) => .inl (cA (q.1 + 2), q.2.1, .inr (.inr (.inr (.inr q.2.2))))
  | .inr (.inr q) => .inr (q.1, kv_fs (kv_flags q.1) q.2 f)
def kv_ws (b n : Nat) (cA : Nat → ClassId) (S : kv_SM) (I : kv_IM) : va_W := (List.range n).map (fun i => (b + i, kv_e cA (S (b + i)) (I (b + i))))
def kv_R (b n : Nat) (D : va_G) (cA : Nat → ClassId) (S : kv_SM) (I : kv_IM) (H : Heap) : Prop := H.size = b + n ∧ va_P D vwCl (kv_ws b n cA S I) H ∧ ∀ a, (a < b ∨ b + n ≤ a) → S a = .inl (0, 0)
theorem kv_ws_get {b n : Nat} {cA : Nat → ClassId} {S : kv_SM} {I : kv_IM} {a : Nat} (h1 : b ≤ a) (h2 : a < b + n) : (kv_ws b n cA S I)[a - b]? = some (a, kv_e cA (S a) (I a)) := by
  unfold kv_ws
  rw [List.getElem?_map, List.getElem?_range (by omega)]
  show some (b + (a - b), _) = _
  rw [show b + (a - b) = a by omega]
theorem kv_ws_mem {b n : Nat} {cA : Nat → ClassId} {S : kv_SM} {I : kv_IM} {k : Nat} {q : Nat × va_E} (h : (kv_ws b n cA S I)[k]? = some q) : k < n ∧ q = (b + k, kv_e cA (S (b + k)) (I (b + k))) := by
  unfold kv_ws at h
  rw [List.getElem?_map] at h
  by_cases hk : k < n
  · rw [List.getElem?_range hk] at h
    exact ⟨hk, (Option.some.inj h).symm⟩
  · rw [List.getElem?_eq_none (by simp; omega)] at h
    cases h
theorem kv_ws_D {b n : Nat} {cA : Nat → ClassId} {S : kv_SM} {I : kv_IM} : va_D (fun q => b ≤ q) (kv_ws b n cA S I) := by
  refine ⟨fun i j p q hi hj hpq => ?_, fun k q hk => ?_⟩
  · obtain ⟨-, rfl⟩ := kv_ws_mem hi
    obtain ⟨-, rfl⟩ := kv_ws_mem hj
    simp only at hpq
    omega
  · obtain ⟨-, rfl⟩ := kv_ws_mem hk
    show b ≤ b + k
    omega
theorem kv_ws_set {b n : Nat} {cA : Nat → ClassId} {S S' : kv_SM} {I I' : kv_IM} {a : Nat} {e : va_E} (h1 : b ≤ a) (h2 : a < b + n) (he : kv_e cA (S' a) (I' a) = e) (ho : ∀ q, q ≠ a → S' q = S q ∧ I' q = I q) : (kv_ws b n cA S I).set (a - b) (a, e) = kv_ws b n cA S' I' := by
  apply List.ext_getElem?
  intro k
  by_cases hk : k = a - b
  · subst hk
    rw [kv_ws_get h1 h2, he, List.getElem?_set_self]
    unfold kv_ws
    simp
    omega
  · rw [List.getElem?_set_ne (fun q => hk q.symm)]
    unfold kv_ws
    rw [List.getElem?_map, List.getElem?_map]
    by_cases hn : k < n
    · rw [List.getElem?_range hn]
      show some (b + k, _) = some (b + k, _)
      obtain ⟨e1, e2⟩ := ho (b + k) (by omega)
      rw [e1, e2]
    · rw [List.getElem?_eq_none (by simp; omega)]
      rfl
theorem kv_R.at {b n : Nat} {D : va_G} {cA : Nat → ClassId} {S : kv_SM} {I : kv_IM} {H : Heap} (h : kv_R b n D cA S I H) {a : Nat} (h1 : b ≤ a) (h2 : a < b + n) : va_at D vwCl (a, kv_e cA (S a) (I a)) H := h.2.1 (a - b) _ (kv_ws_get h1 h2)
theorem kv_R.inO {b n : Nat} {D : va_G} {cA : Nat → ClassId} {S : kv_SM} {I : kv_IM} {H : Heap} (h : kv_R b n D cA S I H) {a c : Nat} {r : Nat → Option Nat} (hS : S a = kO c r) : b ≤ a ∧ a < b + n := by
  by_cases q : a < b ∨ b + n ≤ a
  · rw [h.2.2 a q] at hS; cases hS
  · omega
theorem kv_R.inA {b n : Nat} {D : va_G} {cA : Nat → ClassId} {S : kv_SM} {I : kv_IM} {H : Heap} (h : kv_R b n D cA S I H) {a c k : Nat} {r : Nat → Option Nat} (hS : S a = kA c k r) : b ≤ a ∧ a < b + n := by
  by_cases q : a < b ∨ b + n ≤ a
  · rw [h.2.2 a q] at hS; cases hS
  · omega
theorem kv_R.inI {b n : Nat} {D : va_G} {cA : Nat → ClassId} {S : kv_SM} {I : kv_IM} {H : Heap} (h : kv_R b n D cA S I H) {a t k : Nat} (hS : S a = .inl (t, k)) (hk : 0 < k) : b ≤ a ∧ a < b + n := by
  by_cases q : a < b ∨ b + n ≤ a
  · rw [h.2.2 a q] at hS; cases hS; omega
  · omega
theorem kv_R.set {b n : Nat} {D : va_G} {cA : Nat → ClassId} {S S' : kv_SM} {I I' : kv_IM} {H H1 : Heap} (h : kv_R b n D cA S I H) {a : Nat} {e : va_E} (h1 : b ≤ a) (h2 : a < b + n) (hz : H1.size = H.size) (hP : va_P D vwCl ((kv_ws b n cA S I).set (a - b) (a, e)) H1) (he : kv_e cA (S' a) (I' a) = e) (ho : ∀ q, q ≠ a → S' q = S q ∧ I' q = I q) : kv_R b n D cA S' I' H1 := by
  refine ⟨hz.trans h.1, ?_, fun q hq => ?_⟩
  · rw [kv_ws_set h1 h2 he ho] at hP
    exact hP
  · rw [(ho q (by omega)).1]
    exact h.2.2 q hq
theorem kv_fs_get {fl : List Bool} {r : Nat → Option Nat} {f : Nat → Int32} {k : Nat} {t : Bool} (h : fl[k]? = some t) : (kv_fs fl r f)[k]? = some (if t = true then va_rf (r k) else .int (f k)) := by
  have hk : k < fl.length := (List.getElem?_eq_some_iff.mp h).1
  unfold kv_fs
  rw [List.getElem?_map, List.getElem?_range hk]
  simp [List.getD_eq_getElem?_getD, h]
theorem kv_fs_len {fl : List Bool} {r : Nat → Option Nat} {f : Nat → Int32} : (kv_fs fl r f).length = fl.length := by simp [kv_fs]
theorem kv_fs_setI {fl : List Bool} {r : Nat → Option Nat} {f f' : Nat → Int32} {k : Nat} {x : Int32} (h : fl[k]? = some false) (hx : f' k = x) (ho : ∀ j, j ≠ k → f' j = f j) : kv_fs fl r f' = (kv_fs fl r f).set k (.int x) := by
  apply List.ext_getElem?
  intro j
  have hk : k < fl.length := (List.getElem?_eq_some_iff.mp h).1
  by_cases hj : j = k
  · subst hj
    rw [kv_fs_get h, List.getElem?_set_self (by rw [kv_fs_len]; exact hk)]
    simp [hx]
  · rw [List.getElem?_set_ne (fun q => hj q.symm)]
    unfold kv_fs
    rw [List.getElem?_map, List.getElem?_map]
    by_cases hl : j < fl.length
    · rw [List.getElem?_range hl]
      simp [ho j hj]
    · rw [List.getElem?_eq_none (by simp; omega)]
      rfl
theorem kv_fs_setR {fl : List Bool} {r r' : Nat → Option Nat} {f : Nat → Int32} {k : Nat} {x : Option Nat} (h : fl[k]? = some true) (hx : r' k = x) (ho : ∀ j, j ≠ k → r' j = r j) : kv_fs fl r' f = (kv_fs fl r f).set k (va_rf x) := by
  apply List.ext_getElem?
  intro j
  have hk : k < fl.length := (List.getElem?_eq_some_iff.mp h).1
  by_cases hj : j = k
  · subst hj
    rw [kv_fs_get h, List.getElem?_set_self (by rw [kv_fs_len]; exact hk)]
    simp [hx]
  · rw [List.getElem?_set_ne (fun q => hj q.symm)]
    unfold kv_fs
    rw [List.getElem?_map, List.getElem?_map]
    by_cases hl : j < fl.length
    · rw [List.getElem?_range hl]
      simp [ho j hj]
    · rw [List.getElem?_eq_none (by simp; omega)]
      rfl
def kv_isN : Cond → Bool
  | .fieldLinkNest _ _ _ _ _ _ => true
  | .methodLinkNest _ _ _ _ => true
  | _ => false
def kv_tb : List Cond := lw_tbl.filter goodWord
def kv_nw : List Cond := lw_tbl.filter kv_isN
theorem kv_tb_in {w : Cond} (h : w ∈ lw_tbl) (hg : goodWord w = true) : w ∈ kv_tb := List.mem_filter.mpr ⟨h, hg⟩
theorem kv_nw_in {w : Cond} (h : w ∈ lw_tbl) (hg : kv_isN w = true) : w ∈ kv_nw := List.mem_filter.mpr ⟨h, hg⟩
theorem kv_tb_good : GoodIn kv_tb kv_tb := fun w h => ⟨h, good_of_word (List.mem_filter.mp h).2⟩
def kv_wd (y : kv_M) : List Cond := .code y.2.1 y.2.2.1 y.2.2.2.1 y.2.2.2.2 :: kv_tb
def kv_rm (d kc ks : Nat) : Room := { frames := d, cells := kc, slots := ks, locals := 36 * d }
def kv_ret (y : kv_M) (v : Option Value) (pc : Nat) : Prop := match v with
  | none => decode y.2.2.1 pc = .ok (.return_, 1) ∧ y.2.2.2.2 = none
  | some (.int x) => decode y.2.2.1 pc = .ok (.ireturn, 1) ∧ ∃ ty, y.2.2.2.2 = some ty ∧ narrow ty (.int x) = .int x
  | some (.long _) => decode y.2.2.1 pc = .ok (.lreturn, 1) ∧ y.2.2.2.2 = some .long
  | some (.ref _) => decode y.2.2.1 pc = .ok (.areturn, 1) ∧ ((∃ nm, y.2.2.2.2 = some (.object nm)) ∨ ∃ t, y.2.2.2.2 = some (.array t))
  | _ => False
def kv_N (s : State) : Prop := (∀ w ∈ kv_nw, va_Nw w s) ∧ ∀ C ∈ kv_ao, va_AO C s
def kv_C (y : kv_M) (d : Nat) (B : kv_B) (Q : kv_Q) (p : Program) (l : Launch) (e : Env) (R : Room) (s : State) (m : MethodId) (args : Array Value) (below : List Frame) (meth : Method) (c : Code) (D : va_G) (cA : Nat → ClassId) (Z : State → Prop) (mc ms : Nat) : Prop :=
  p.tables.exec = Jvm.exec ∧ c.code = y.2.2.1 ∧ c.maxLocals = y.2.2.2.1 ∧ s.vm.findClass y.1 = some m.cls ∧ (∀ w ∈ kv_tb, w.before args s = true) ∧ kv_N s ∧ va_K D vwCl (kv_tys cA) s ∧ (d ≤ R.frames ∧ 36 * d ≤ R.locals ∧ R.cells = mc ∧ R.slots = ms) ∧ (y.2.1.name = "<init>" → meth.name = "<init>") ∧ (B.2.1 < B.1 ∧ va_X B.2.1 B.2.2.1 B.2.2.2 s s.heap) ∧
  ∀ (H : Heap) (locs : List Loc) (cells slots n : Nat) (S : kv_SM) (I : kv_IM) (v : Option Value) (pc : Nat) (ls : Array Slot), kv_R B.1 n D cA S I H → H[B.2.1]? = s.heap[B.2.1]? → (∀ q ∈ locs, B.1 ≤ q.base) → cells ≤ mc → slots ≤ ms → Q v n S I → kv_ret y v pc → W p l e R s m args below meth c H locs cells slots Z (F0 m pc ls v.toList)
def kv_V (y : kv_M) (d : Nat) (B : kv_B) (Q : kv_Q) (kc ks n : Nat) (S : kv_SM) (I : kv_IM) (pc : Nat) (L : List (Nat × Value)) (st : List Value) : Prop :=
  ∀ (p : Program) (l : Launch) (e : Env) (R : Room) (s : State) (m : MethodId) (args : Array Value) (below : List Frame) (meth : Method) (c : Code) (D : va_G) (cA : Nat → ClassId) (Z : State → Prop) (mc ms : Nat), kv_C y d B Q p l e R s m args below meth c D cA Z mc ms →
  ∀ (H : Heap) (locs : List Loc) (cells slots : Nat) (ls : Array Slot), kv_R B.1 n D cA S I H → H[B.2.1]? = s.heap[B.2.1]? → (∀ q ∈ locs, B.1 ≤ q.base) → cells + kc ≤ mc → slots + ks ≤ ms → lv_has ls y.2.2.2.1 L → W p l e R s m args below meth c H locs cells slots Z (F0 m pc ls st)
def kv_Pc (as : List Value) (B : kv_B) (n : Nat) (S : kv_SM) (I : kv_IM) (D : va_G) (cA : Nat → ClassId) : Array Value → State → Prop := fun a U => a = as.toArray ∧ va_K D vwCl (kv_tys cA) U ∧ kv_R B.1 n D cA S I U.heap ∧ kv_N U ∧ B.2.1 < B.1 ∧ va_X B.2.1 B.2.2.1 B.2.2.2 U U.heap
def kv_Qc (B : kv_B) (Q : kv_Q) (D : va_G) (cA : Nat → ClassId) : Array Value → State → Outcome → State → Prop := fun _ st o t => ∃ (v : Option Value) (n : Nat) (S : kv_SM) (I : kv_IM), o = .returned v ∧ Q v n S I ∧ kv_R B.1 n D cA S I t.heap ∧ t.heap[B.2.1]? = st.heap[B.2.1]?
def kv_T (y : kv_M) (d kc ks : Nat) (B : kv_B) (as : List Value) (n : Nat) (S : kv_SM) (I : kv_IM) (Q : kv_Q) : Prop :=
  ∀ (l : Launch) (D : va_G) (cA : Nat → ClassId), Met l y.2.1 (kv_wd y) (kv_rm d kc ks) (kv_Pc as B n S I D cA) (kv_Qc B Q D cA) kc ks (fun q => B.1 ≤ q)
theorem kv_nw_onTables {w : Cond} (h : w ∈ kv_nw) : w.onTables = true := by
  have h1 := (List.mem_filter.mp h).2
  cases w <;> first | rfl | (simp [kv_isN] at h1)
theorem kv_nw_warm {w : Cond} (h : w ∈ kv_nw) {s U : State} (hW : s.WarmedH U.vm) (hw : va_Nw w s) : va_Nw w U := by
  have h1 := (List.mem_filter.mp h).2
  cases w <;> first | exact va_Nw.warmF hW hw | exact va_Nw.warmM hW hw | (simp [kv_isN] at h1)
theorem kv_Pc_blind {as : List Value} {B : kv_B} {n : Nat} {S : kv_SM} {I : kv_IM} {D : va_G} {cA : Nat → ClassId} : FrameBlind (kv_Pc as B n S I D cA) := by
  intro a U g mk q
  obtain ⟨q0, q1, q2, q3, q4, q5⟩ := q
  exact ⟨q0, va_K.moved (u := U) (U := U.calling g mk a) (Vm.Alike.refl U.vm) q1, q2, ⟨fun w hw => va_Nw.same (u := U) (U := U.calling g mk a) (kv_nw_onTables hw) rfl (q3.1 w hw), fun C hC => va_AO.moved (u := U) (U := U.calling g mk a) (Vm.Alike.refl U.vm) (q3.2 C hC)⟩, q4, va_X.moved (u := U) (U := U.calling g mk a) (Vm.Alike.refl U.vm) q5⟩
theorem kv_Pc_at {as : List Value} {B : kv_B} {n : Nat} {S : kv_SM} {I : kv_IM} {D : va_G} {cA : Nat → ClassId} {s U : State} {H : Heap} (hU : U.heap = H) (hW : s.WarmedH U.vm) (hK : va_K D vwCl (kv_tys cA) s) (hR : kv_R B.1 n D cA S I H) (hN : kv_N s) (hb : B.2.1 < B.1) (hX : va_X B.2.1 B.2.2.1 B.2.2.2 s s.heap) (hH : H[B.2.1]? = s.heap[B.2.1]?) : kv_Pc as B n S I D cA as.toArray U := by
  refine ⟨rfl, va_K.moved hW.alike hK, by rw [hU]; exact hR, ⟨fun w hw => kv_nw_warm hw hW (hN.1 w hw), fun C hC => va_AO.moved hW.alike (hN.2 C hC)⟩, hb, ?_⟩
  rw [hU]
  exact (hX.kept hH).moved hW.alike
theorem kv_T.of {y : kv_M} {d kc ks : Nat} {B : kv_B} {as : List Value} {n : Nat} {S : kv_SM} {I : kv_IM} {Q : kv_Q} (hy : plainName y.2.1.cls = true) (hcl : y.2.1.cls = y.1) (hL : (lg_sl as).length ≤ y.2.2.2.1)
    (hV : kv_V y d B Q kc ks n S I 0 (lv_args 0 as) []) : kv_T y d kc ks B as n S I Q := by
  intro l D cA
  refine Met.ofW (cc := y.2.2.1) (maxL := y.2.2.2.1) (ret := y.2.2.2.2) hy rfl ?_
  intro p e s m args below meth c s₁ Bd hml hv
  obtain ⟨rfl, hK, hR, hN, hb, hX⟩ := hv
  have hts := atoms_spec (ws := kv_wd y) Bd.pre
  have hown : s.vm.findClass y.1 = some m.cls := by rw [← hcl]; exact findClass_of_methodNamed Bd.named
  have hlocks := Bd.notSynchronized
  have hr := Bd.returns
  rw [lg_entry_eq]
  have hl := lv_entry as hL
  refine hV p l e (kv_rm d kc ks) s m as.toArray below meth c D cA _ kc ks ⟨Bd.exec, Bd.bytes, hml, hown, fun w hw => hts w (List.mem_cons_of_mem _ hw), hN, hK, ⟨Nat.le_refl _, Nat.le_refl _, rfl, rfl⟩, fun hi => (name_of_methodNamed Bd.named Bd.method).1.trans hi, ⟨hb, hX⟩, ?_⟩ s.heap [] 0 0 _ hR rfl (fun q h => by cases h) (by omega) (by omega) hl
  intro H locs cells slots n' S' I' v pc ls hR' hH' hq hc hs hQ hret
  refine W.widen (k := kc) (n := ks) hc hs ?_
  have hx := Bd.exec
  have hbb := Bd.bytes
  match v, hret, hQ with
  | none, ⟨hd, hn⟩, hQ => exact W.vret hx hbb (hr.trans hn) (fun t ht hW => ⟨_, _, _, _, rfl, hQ, by rw [ht]; exact hR', by rw [ht]; exact hH'⟩) hq hd
  | some (.int x), ⟨hd, ty, hn, hnar⟩, hQ => exact W.zret hx hbb (hr.trans hn) hnar (fun t ht hW => ⟨_, _, _, _, rfl, hQ, by rw [ht]; exact hR', by rw [ht]; exact hH'⟩) hq hd
  | some (.long x), ⟨hd, hn⟩, hQ => exact W.lret hx hbb (hr.trans hn) (fun t ht hW => ⟨_, _, _, _, rfl, hQ, by rw [ht]; exact hR', by rw [ht]; exact hH'⟩) hq hd
  | some (.ref x), ⟨hd, hn⟩, hQ =>
    rcases hn with ⟨nm, hn⟩ | ⟨t, hn⟩
    · exact W.aret hx hbb (hr.trans hn) (Or.inl ⟨nm, rfl⟩) (Or.inr ⟨x, rfl⟩) (fun t ht hW => ⟨_, _, _, _, rfl, hQ, by rw [ht]; exact hR', by rw [ht]; exact hH'⟩) hq hd
    · exact W.aret hx hbb (hr.trans hn) (Or.inr ⟨t, rfl⟩) (Or.inr ⟨x, rfl⟩) (fun t ht hW => ⟨_, _, _, _, rfl, hQ, by rw [ht]; exact hR', by rw [ht]; exact hH'⟩) hq hd
theorem kv_T.mono {y : kv_M} {d kc ks : Nat} {B : kv_B} {as : List Value} {n : Nat} {S : kv_SM} {I : kv_IM} {Q Q' : kv_Q} (h : kv_T y d kc ks B as n S I Q) (hq : ∀ v n S I, Q v n S I → Q' v n S I) : kv_T y d kc ks B as n S I Q' := by
  intro l D cA p e ha hc hk s m args below hf happ hP hK
  obtain ⟨k, o, h1, h2, h3, ⟨v, n', S', I', e1, e2, e3⟩, h4⟩ := h l D cA p e ha hc hk s m args below hf happ hP hK
  exact ⟨k, o, h1, h2, h3, ⟨v, n', S', I', e1, hq _ _ _ _ e2, e3⟩, h4⟩
section KVV
variable {y : kv_M} {d : Nat} {B : kv_B} {Q : kv_Q} {kc ks n : Nat} {S : kv_SM} {I : kv_IM} {pc : Nat} {L : List (Nat × Value)} {st : List Value}
theorem kv_end {v : Option Value} (hq : Q v n S I) (hr : kv_ret y v pc) : kv_V y d B Q kc ks n S I pc L v.toList := by
  intro p l e R s m args below meth c D cA Z mc ms C H locs cells slots ls hR hH hq' hc hs hl
  exact C.2.2.2.2.2.2.2.2.2.2 H locs cells slots n S I v pc ls hR hH hq' (by omega) (by omega) hq hr
theorem kv_loc {L' : List (Nat × Value)} (ks' : List Nat) (h : lv_pick L ks' = L') (k : kv_V y d B Q kc ks n S I pc L' st) : kv_V y d B Q kc ks n S I pc L st := by
  intro p l e R s m args below meth c D cA Z mc ms C H locs cells slots ls hR hH hq' hc hs hl
  exact k p l e R s m args below meth c D cA Z mc ms C H locs cells slots ls hR hH hq' hc hs (lv_sub hl ks' h)
theorem kv_less {kc' ks' : Nat} (h1 : kc' ≤ kc) (h2 : ks' ≤ ks) (k : kv_V y d B Q kc' ks' n S I pc L st) : kv_V y d B Q kc ks n S I pc L st := by
  intro p l e R s m args below meth c D cA Z mc ms C H locs cells slots ls hR hH hq' hc hs hl
  exact k p l e R s m args below meth c D cA Z mc ms C H locs cells slots ls hR hH hq' (by omega) (by omega) hl
end KVV
