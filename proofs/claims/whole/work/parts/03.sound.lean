/-! SOUNDNESS, first part: what the machine's heap has to do with the abstract one -/
abbrev am_E : Type := va_G × List vw_C × List FieldType × (Nat → ClassId) × List Cond × List Cond × Nat × Nat × Nat × (Nat → Int32)
abbrev e_D (E : am_E) : va_G := E.1
abbrev e_cl (E : am_E) : List vw_C := E.2.1
abbrev e_kd (E : am_E) : List FieldType := E.2.2.1
abbrev e_dA (E : am_E) : Nat → ClassId := E.2.2.2.1
abbrev e_nw (E : am_E) : List Cond := E.2.2.2.2.1
abbrev e_Ts (E : am_E) : List Cond := E.2.2.2.2.2.1
abbrev e_h (E : am_E) : Nat := E.2.2.2.2.2.2.1
abbrev e_b (E : am_E) : Nat := E.2.2.2.2.2.2.2.1
abbrev e_L (E : am_E) : Nat := E.2.2.2.2.2.2.2.2.1
abbrev e_xs (E : am_E) : Nat → Int32 := E.2.2.2.2.2.2.2.2.2
abbrev am_T : Type := MethodName × ByteArray × Nat × Option FieldType
def am_ad (E : am_E) (a : Nat) : Nat := if a = 0 then e_b E else e_h E + a
theorem am_ad_p {E : am_E} {a : Nat} (h : 1 ≤ a) : am_ad E a = e_h E + a := by
  unfold am_ad
  rw [if_neg (by omega)]
def am_cv (E : am_E) (v : am_V) : Value := match v with
  | .inl z => .int (Int32.ofInt z)
  | .inr r => va_rf (r.map (am_ad E))
theorem am_cv_c (E : am_E) (v : am_V) : (am_cv E v).category = 1 := by
  rcases v with z | _ | a <;> rfl
theorem am_cv_p {E : am_E} {a : Nat} (h : 1 ≤ a) : am_cv E (.inr (some a)) = .ref (e_h E + a) := by
  show va_rf (some (am_ad E a)) = _
  rw [am_ad_p h]
  rfl
def am_cE (E : am_E) (c : am_C) : va_E := match c with
  | .inl o => .inr (o.1, o.2.map (am_cv E))
  | .inr (.inl o) => .inl (e_dA E o.1, o.2.1, .inl (fun j => Int32.ofInt (o.2.2 j)))
  | .inr (.inr o) => .inl (e_dA E o.1, o.2.1, .inr (.inr (.inr (.inr (fun j => (o.2.2 j).map (am_ad E))))))
def am_H (E : am_E) (M : am_M) (H : Heap) : Prop := H.size = e_h E + M.1 ∧ 1 ≤ M.1 ∧ ∀ (a : Nat) (c : am_C), M.2.2 a = some c → 1 ≤ a ∧ va_at (e_D E) (e_cl E) (e_h E + a, am_cE E c) H
def am_wV (v : am_V) : Prop := match v with
  | .inl z => am_ok z
  | .inr _ => True
def am_wC (c : am_C) : Prop := match c with
  | .inl o => ∀ v ∈ o.2, am_wV v
  | .inr (.inl o) => ∀ j, j < o.2.1 → am_ok (o.2.2 j)
  | .inr (.inr _) => True
def am_wM (M : am_M) : Prop := ∀ (a : Nat) (c : am_C), M.2.2 a = some c → am_wC c
def am_wS (st : List am_V) : Prop := ∀ v ∈ st, am_wV v
theorem am_wS_c {v : am_V} {st : List am_V} (h1 : am_wV v) (h2 : am_wS st) : am_wS (v :: st) := by
  intro u hu
  rcases List.mem_cons.mp hu with rfl | hu
  · exact h1
  · exact h2 u hu
theorem am_wS_h {v : am_V} {st : List am_V} (h : am_wS (v :: st)) : am_wV v := h v List.mem_cons_self
theorem am_wS_t {v : am_V} {st : List am_V} (h : am_wS (v :: st)) : am_wS st := fun u hu => h u (List.mem_cons_of_mem _ hu)
def am_KK (E : am_E) (U : State) : Prop := va_K (e_D E) (e_cl E) [] U ∧ (∀ (t : Nat) (ty : FieldType), (e_kd E)[t]? = some ty → ArrOfT U (e_dA E t) ty ∧ va_RA U (e_dA E t) ty) ∧ (∀ w ∈ e_nw E, va_Nw w U) ∧ va_X (e_b E) (e_L E) (e_xs E) U U.heap
def am_nN (E : am_E) : Prop := e_b E ≤ e_h E ∧ ∀ w ∈ e_nw E, (∃ (a : String) (i : Nat) (y : MethodName) (g : String), w = .methodLinkNest a i y g) ∨ ∃ C, w = .arrayOver (.object C)
theorem am_KK.moved {E : am_E} {s U : State} (hn : am_nN E) (hW : s.WarmedH U.vm) (hq : U.heap[e_b E]? = s.heap[e_b E]?) (h : am_KK E s) : am_KK E U :=
  ⟨va_K.moved hW.alike h.1, fun t ty ht => ⟨arrOfT_moved hW.alike (h.2.1 t ty ht).1, (h.2.1 t ty ht).2.moved hW.alike⟩, fun w hw => by
    rcases hn.2 w hw with ⟨a, i, y, g, rfl⟩ | ⟨C, rfl⟩
    · exact va_Nw.warmM hW (h.2.2.1 _ hw)
    · exact va_AO.moved hW.alike (h.2.2.1 _ hw), (h.2.2.2.kept hq).moved hW.alike⟩
theorem am_KK.same {E : am_E} {s U : State} (hn : am_nN E) (hv : s.vm = U.vm) (hh : U.heap = s.heap) (h : am_KK E s) : am_KK E U := by
  have hA : s.vm.Alike U.vm := by rw [hv]; exact Vm.Alike.refl _
  exact ⟨va_K.moved hA h.1, fun t ty ht => ⟨arrOfT_moved hA (h.2.1 t ty ht).1, (h.2.1 t ty ht).2.moved hA⟩, fun w hw => by
    rcases hn.2 w hw with ⟨a, i, y, g, rfl⟩ | ⟨C, rfl⟩
    · exact va_Nw.same rfl hv (h.2.2.1 _ hw)
    · exact va_AO.moved hA (h.2.2.1 _ hw), (h.2.2.2.kept (by rw [hh])).moved hA⟩
def am_X (E : am_E) (T : am_T) (p : Program) (s : State) (m : MethodId) (args : Array Value) (meth : Method) (c : Code) : Prop :=
  p.tables.exec = Jvm.exec ∧ c.code = T.2.1 ∧ c.maxLocals = T.2.2.1 ∧ s.vm.findClass T.1.cls = some m.cls ∧ (∀ w ∈ e_Ts E, w.before args s = true) ∧ am_KK E s ∧ (T.1.name = "<init>" → meth.name = "<init>") ∧ meth.sig.returnType = T.2.2.2 ∧ meth.locks = false
def am_Re (E : am_E) (H0 : Heap) (n0 k0 : Nat) (M : am_M) (H : Heap) (locs : List Loc) (cells slots : Nat) : Prop :=
  am_H E M H ∧ am_wM M ∧ M.1 = n0 + cells ∧ M.2.1 = k0 + slots ∧ (∀ x ∈ locs, e_h E + 1 ≤ x.base) ∧ ∀ q : Nat, q ≤ e_h E → H[q]? = H0[q]?
def am_Lr (E : am_E) (nL : Nat) (ls : am_L) (lsC : Array Slot) : Prop :=
  lsC.size = nL ∧ lv_wf lsC ∧ ls.length = nL ∧ ∀ (i : Nat) (v : am_V), ls[i]? = some (some v) → lsC[i]? = some (.val (am_cv E v)) ∧ am_wV v
def am_Ws (E : am_E) (T : am_T) (pc : Nat) (ls : am_L) (st : List am_V) (M : am_M) (q : am_F) : Prop :=
  ∀ (p : Program) (l : Launch) (e : Env) (R : Room) (s : State) (m : MethodId) (args : Array Value) (below : List Frame) (meth : Method) (c : Code) (Q : State → Prop) (H : Heap) (locs : List Loc) (cells slots n0 k0 : Nat) (lsC : Array Slot),
    am_X E T p s m args meth c → am_wS st → am_Re E s.heap n0 k0 M H locs cells slots → am_Lr E T.2.2.1 ls lsC → q.2.2.2.1 ≤ n0 + R.cells → q.2.2.2.2.1 ≤ k0 + R.slots →
    (∀ (H' : Heap) (locs' : List Loc) (cells' slots' : Nat) (lsC' : Array Slot), am_wS q.2.2.1 → am_Re E s.heap n0 k0 q.2.2.2 H' locs' cells' slots' → am_Lr E T.2.2.1 q.2.1 lsC' → W p l e R s m args below meth c H' locs' cells' slots' Q (F0 m q.1 lsC' (q.2.2.1.map (am_cv E)))) →
    W p l e R s m args below meth c H locs cells slots Q (F0 m pc lsC (st.map (am_cv E)))
def am_Rt (T : am_T) (pc : Nat) (st : List am_V) (r : Option am_V) : Prop :=
  (decode T.2.1 pc = .ok (.ireturn, 1) ∧ ∃ z, st = [.inl z] ∧ r = some (.inl z) ∧ (T.2.2.2 = some .int ∨ (T.2.2.2 = some .boolean ∧ (z = 0 ∨ z = 1)))) ∨
  (decode T.2.1 pc = .ok (.areturn, 1) ∧ ∃ v, st = [.inr v] ∧ r = some (.inr v) ∧ ∃ rt, T.2.2.2 = some rt ∧ ((∃ n, rt = .object n) ∨ ∃ t, rt = .array t)) ∨
  (decode T.2.1 pc = .ok (.return_, 1) ∧ st = [] ∧ r = none ∧ T.2.2.2 = none)
/-- what is made only grows -/
def am_Mo (pc : Nat) (f : am_I) : Prop := ∀ (ls : am_L) (st : List am_V) (M : am_M),
  (∀ q, f (pc, ls, st, M) = some (.inl q) → M.1 ≤ q.2.2.2.1 ∧ M.2.1 ≤ q.2.2.2.2.1) ∧ (∀ y, f (pc, ls, st, M) = some (.inr (.inl y)) → y.2 = M) ∧ ∀ w, f (pc, ls, st, M) = some (.inr (.inr w)) → w.2.2.2.2.2 = M ∧ w.2.2.2.1 = ls
-- contracts
def am_ws (E : am_E) (T : am_T) : List Cond := Cond.code T.1 T.2.1 T.2.2.1 T.2.2.2 :: e_Ts E
def am_rm (d : Nat) (M M' : am_M) : Room := { frames := d - 1, cells := M'.1 - M.1, slots := M'.2.1 - M.2.1, locals := 40 * (d - 1) }
def am_Pc (E : am_E) (as : List am_V) (M : am_M) : Array Value → State → Prop := fun v U => v = (as.map (am_cv E)).toArray ∧ am_H E M U.heap ∧ am_KK E U
def am_Qc (E : am_E) (y : am_Y) : Array Value → State → Outcome → State → Prop := fun _ st o t => o = .returned (y.1.map (am_cv E)) ∧ am_H E y.2 t.heap ∧ am_wM y.2 ∧ (∀ v, y.1 = some v → am_wV v) ∧ ∀ q : Nat, q ≤ e_h E → t.heap[q]? = st.heap[q]?
def am_IH (E : am_E) (tb : Nat → am_T) (P : am_P) (l : Launch) (k d : Nat) : Prop := ∀ (j : Nat) (as : List am_V) (M : am_M) (y : am_Y), 3 ≤ j → am_call P k d j as M = some y → am_wS as → am_wM M →
  Met l (tb j).1 (am_ws E (tb j)) (am_rm d M y.2) (am_Pc E as M) (am_Qc E y) (y.2.1 - M.1) (y.2.2.1 - M.2.1) (fun q => e_h E + 1 ≤ q)
def am_Cl (E : am_E) (tb : Nat → am_T) (P : am_P) (T : am_T) (pc : Nat) (ls : am_L) (st : List am_V) (M : am_M) (w : Nat × List am_V × am_F) : Prop :=
  ∀ (k d : Nat) (y : am_Y) (p : Program) (l : Launch) (e : Env) (R : Room) (s : State) (m : MethodId) (args : Array Value) (below : List Frame) (meth : Method) (c : Code) (Q : State → Prop) (H : Heap) (locs : List Loc) (cells slots n0 k0 : Nat) (lsC : Array Slot),
    am_IH E tb P l k d → am_call P k d w.1 w.2.1 M = some y → (M.1 ≤ y.2.1 ∧ M.2.1 ≤ y.2.2.1) → am_X E T p s m args meth c → am_wS st → am_Re E s.heap n0 k0 M H locs cells slots → am_Lr E T.2.2.1 ls lsC → d ≤ R.frames → 40 * d ≤ R.locals → y.2.1 ≤ n0 + R.cells → y.2.2.1 ≤ k0 + R.slots →
    (∀ (H' : Heap) (locs' : List Loc) (cells' slots' : Nat), am_wS (y.1.toList ++ w.2.2.2.2.1) → am_Re E s.heap n0 k0 y.2 H' locs' cells' slots' → W p l e R s m args below meth c H' locs' cells' slots' Q (F0 m w.2.2.1 lsC ((y.1.toList ++ w.2.2.2.2.1).map (am_cv E)))) →
    W p l e R s m args below meth c H locs cells slots Q (F0 m pc lsC (st.map (am_cv E)))
def am_G (E : am_E) (tb : Nat → am_T) (P : am_P) (T : am_T) (pc : Nat) (f : am_I) : Prop := am_Mo pc f ∧ ∀ (ls : am_L) (st : List am_V) (M : am_M),
  (∀ q, f (pc, ls, st, M) = some (.inl q) → am_Ws E T pc ls st M q) ∧ (∀ y, f (pc, ls, st, M) = some (.inr (.inl y)) → am_Rt T pc st y.1) ∧ ∀ w, f (pc, ls, st, M) = some (.inr (.inr w)) → am_Cl E tb P T pc ls st M w
/-- an instruction that only goes on: one road at a time -/
theorem am_G.ofStep {E : am_E} {tb : Nat → am_T} {P : am_P} {T : am_T} {pc : Nat} {f : am_I} (h : ∀ (ls : am_L) (st : List am_V) (M : am_M) (x : am_F ⊕ (am_Y ⊕ (Nat × List am_V × am_F))), f (pc, ls, st, M) = some x → ∃ q, x = .inl q ∧ M.1 ≤ q.2.2.2.1 ∧ M.2.1 ≤ q.2.2.2.2.1 ∧ am_Ws E T pc ls st M q) : am_G E tb P T pc f := by
  refine ⟨fun ls st M => ⟨fun q hq => ?_, fun y hy => ?_, fun w hw => ?_⟩, fun ls st M => ⟨fun q hq => ?_, fun y hy => ?_, fun w hw => ?_⟩⟩
  · obtain ⟨q', e1, h1, h2, -⟩ := h ls st M _ hq
    cases e1
    exact ⟨h1, h2⟩
  · obtain ⟨q', e1, -⟩ := h ls st M _ hy
    cases e1
  · obtain ⟨q', e1, -⟩ := h ls st M _ hw
    cases e1
  · obtain ⟨q', e1, -, -, h3⟩ := h ls st M _ hq
    cases e1
    exact h3
  · obtain ⟨q', e1, -⟩ := h ls st M _ hy
    cases e1
  · obtain ⟨q', e1, -⟩ := h ls st M _ hw
    cases e1
theorem am_G.fail {E : am_E} {tb : Nat → am_T} {P : am_P} {T : am_T} {pc : Nat} : am_G E tb P T pc i_fail := am_G.ofStep (fun ls st M x h => by cases h)
def am_all (E : am_E) (tb : Nat → am_T) (P : am_P) (T : am_T) : List (Nat × am_I) → Prop
  | [] => True
  | q :: l => am_G E tb P T q.1 q.2 ∧ am_all E tb P T l
theorem am_all.get {E : am_E} {tb : Nat → am_T} {P : am_P} {T : am_T} : ∀ (l : List (Nat × am_I)), am_all E tb P T l → ∀ pc, am_G E tb P T pc (am_at l pc) := by
  intro l
  induction l with
  | nil => intro _ pc; exact am_G.fail
  | cons q l ih =>
    intro h pc
    unfold am_at
    by_cases hp : pc = q.1
    · rw [if_pos hp, hp]
      exact h.1
    · rw [if_neg hp]
      exact ih h.2 pc
theorem am_all.app {E : am_E} {tb : Nat → am_T} {P : am_P} {T : am_T} : ∀ (l l' : List (Nat × am_I)), am_all E tb P T l → am_all E tb P T l' → am_all E tb P T (l ++ l') := by
  intro l
  induction l with
  | nil => intro l' _ h; exact h
  | cons q l ih => intro l' h h'; exact ⟨h.1, ih l' h.2 h'⟩
-- numbers
theorem am_ti {z : Int} (h : am_ok z) : (Int32.ofInt z).toInt = z := Int32.toInt_ofInt_of_le (by have := h.1; omega) (by have := h.2; omega)
theorem am_lt {x y : Int} (hx : am_ok x) (hy : am_ok y) : Int32.ofInt x < Int32.ofInt y ↔ x < y := by
  rw [Int32.lt_iff_toInt_lt, am_ti hx, am_ti hy]
theorem am_le {x y : Int} (hx : am_ok x) (hy : am_ok y) : Int32.ofInt x ≤ Int32.ofInt y ↔ x ≤ y := by
  rw [Int32.le_iff_toInt_le, am_ti hx, am_ti hy]
theorem am_eq {x y : Int} (hx : am_ok x) (hy : am_ok y) : Int32.ofInt x = Int32.ofInt y ↔ x = y := by
  rw [← Int32.toInt_inj, am_ti hx, am_ti hy]
theorem am_cl {z : Int} (h : am_ok z) : (Int32.ofInt z).toNatClampNeg = z.toNat := by
  show (Int32.ofInt z).toInt.toNat = _
  rw [am_ti h]
theorem am_ok0 : am_ok 0 := by unfold am_ok; omega
theorem am_okI (x : Int32) : am_ok x.toInt := ⟨by have := x.le_toInt; omega, by have := x.toInt_lt; omega⟩
theorem am_ok_and (x y : Int) : am_ok (am_and x y) := am_okI _
theorem am_ok_or (x y : Int) : am_ok (am_or x y) := am_okI _
theorem am_ok_xor (x y : Int) : am_ok (am_xor x y) := am_okI _
-- locals
theorem am_Lr.get {E : am_E} {nL k : Nat} {ls : am_L} {lsC : Array Slot} {v : am_V} (h : am_Lr E nL ls lsC) (hl : ls[k]? = some (some v)) : lsC[k]? = some (.val (am_cv E v)) := (h.2.2.2 k v hl).1
theorem am_Lr.wf {E : am_E} {nL k : Nat} {ls : am_L} {lsC : Array Slot} {v : am_V} (h : am_Lr E nL ls lsC) (hl : ls[k]? = some (some v)) : am_wV v := (h.2.2.2 k v hl).2
/-- all that the locals hold, as a list -/
def am_pr (E : am_E) (ls : am_L) : List (Nat × Value) := (List.range ls.length).filterMap (fun i => match ls[i]? with
  | some (some v) => some (i, am_cv E v)
  | _ => none)
theorem am_pr_in {E : am_E} {ls : am_L} {i : Nat} {v : am_V} (h : ls[i]? = some (some v)) : (i, am_cv E v) ∈ am_pr E ls := by
  refine List.mem_filterMap.mpr ⟨i, List.mem_range.mpr (List.getElem?_eq_some_iff.mp h).1, ?_⟩
  simp only [h]
theorem am_pr_of {E : am_E} {ls : am_L} {q : Nat × Value} (h : q ∈ am_pr E ls) : ∃ v, ls[q.1]? = some (some v) ∧ q.2 = am_cv E v := by
  obtain ⟨i, -, hi⟩ := List.mem_filterMap.mp h
  split at hi
  · next v hv =>
    cases hi
    exact ⟨v, hv, rfl⟩
  · cases hi
theorem am_Lr.has {E : am_E} {nL : Nat} {ls : am_L} {lsC : Array Slot} (h : am_Lr E nL ls lsC) : lv_has lsC nL (am_pr E ls) := by
  refine ⟨h.1, h.2.1, fun q hq => ?_⟩
  obtain ⟨v, h1, h2⟩ := am_pr_of hq
  rw [h2]
  exact h.get h1
theorem am_Lr.set {E : am_E} {nL k : Nat} {ls : am_L} {lsC lsC' : Array Slot} {v : am_V} (h : am_Lr E nL ls lsC) (hk : k < nL) (hv : am_wV v) (h' : lv_has lsC' nL ((k, am_cv E v) :: (am_pr E ls).filter (fun q => !(q.1 == k) && !(q.1 + 1 == k && q.2.category == 2)))) : am_Lr E nL (ls.set k (some v)) lsC' := by
  refine ⟨h'.1, h'.2.1, by rw [List.length_set]; exact h.2.2.1, fun i u hi => ?_⟩
  by_cases hik : i = k
  · subst hik
    rw [List.getElem?_set_self (by rw [h.2.2.1]; exact hk)] at hi
    cases hi
    exact ⟨h'.2.2 (i, am_cv E v) List.mem_cons_self, hv⟩
  · rw [List.getElem?_set_ne (fun z => hik z.symm)] at hi
    refine ⟨h'.2.2 (i, am_cv E u) (List.mem_cons_of_mem _ (List.mem_filter.mpr ⟨am_pr_in hi, ?_⟩)), h.wf hi⟩
    simp [hik, am_cv_c]
