/-! SOUNDNESS, fourth part: calls, bodies, contracts -/
theorem am_Pc_b {E : am_E} (hN : am_nN E) {as : List am_V} {M : am_M} : FrameBlind (am_Pc E as M) := by
  intro a U g mk q
  obtain ⟨q1, q2, q3⟩ := q
  exact ⟨q1, q2, am_KK.same (s := U) (U := U.calling g mk a) hN rfl rfl q3⟩
theorem am_Pc_i {E : am_E} (hN : am_nN E) {T : am_T} {p : Program} {s U : State} {m : MethodId} {args : Array Value} {meth : Method} {c : Code} {as : List am_V} {n0 k0 : Nat} {M : am_M} {H : Heap} {locs : List Loc} {cells slots : Nat} (X : am_X E T p s m args meth c) (hR : am_Re E s.heap n0 k0 M H locs cells slots) (hU : U.heap = H) (hW : s.WarmedH U.vm) : am_Pc E as M (as.map (am_cv E)).toArray U :=
  ⟨rfl, by rw [hU]; exact hR.1, X.2.2.2.2.2.1.moved hN hW (by rw [hU]; exact hR.2.2.2.2.2 _ hN.1)⟩
section AmC
variable {p : Program} {l : Launch} {e : Env} {R : Room} {s : State} {m : MethodId} {args : Array Value} {below : List Frame} {meth : Method} {c : Code} {H : Heap} {locs : List Loc} {cells slots : Nat} {Q : State → Prop}
theorem am_after {E : am_E} {y : am_Y} {a : Array Value} {free : Addr → Prop} {mc ms pc : Nat} {ls : Array Slot} {st0 rest : List Value} (hr : va_Run p l e R s m args below meth c H locs cells slots mc ms (F0 m pc ls st0) rest (am_Qc E y a) free)
    (kk : ∀ (H' : Heap) (L : List Loc), (∀ q ∈ L, free q.base) → am_H E y.2 H' → am_wM y.2 → (∀ v, y.1 = some v → am_wV v) → (∀ q : Nat, q ≤ e_h E → H'[q]? = H[q]?) → W p l e R s m args below meth c H' (locs ++ L) (cells + mc) (slots + ms) Q (F0 m (pc + 3) ls ((y.1.map (am_cv E)).toList ++ rest))) : W p l e R s m args below meth c H locs cells slots Q (F0 m pc ls st0) := by
  intro T hT X
  obtain ⟨v, st₀, t, T', L, h0, X', hL, e1, e2, ⟨hv, hH, hw1, hw2, hfr⟩, st⟩ := hr T hT X
  have hv' : v = y.1.map (am_cv E) := by injection hv
  subst hv'
  obtain ⟨t2, a1, b1⟩ := kk T'.heap L hL (by rw [e1]; exact hH) hw1 hw2 (fun q hq => by rw [e1, hfr q hq, h0]) T' rfl X'
  exact ⟨t2, st t2 a1, b1⟩
end AmC
theorem am_Re.call {E : am_E} {H0 : Heap} {n0 k0 : Nat} {M : am_M} {y : am_Y} {H H' : Heap} {locs L : List Loc} {cells slots : Nat} (h : am_Re E H0 n0 k0 M H locs cells slots) (hm : M.1 ≤ y.2.1 ∧ M.2.1 ≤ y.2.2.1) (hL : ∀ q ∈ L, e_h E + 1 ≤ q.base) (hH : am_H E y.2 H') (hw : am_wM y.2) (hf : ∀ q : Nat, q ≤ e_h E → H'[q]? = H[q]?) : am_Re E H0 n0 k0 y.2 H' (locs ++ L) (cells + (y.2.1 - M.1)) (slots + (y.2.2.1 - M.2.1)) := by
  obtain ⟨-, -, c1, c2, l1, f1⟩ := h
  obtain ⟨m1, m2⟩ := hm
  refine ⟨hH, hw, by omega, by omega, fun x hx => ?_, fun q hq => (hf q hq).trans (f1 q hq)⟩
  rcases List.mem_append.mp hx with hx | hx
  · exact l1 x hx
  · exact hL x hx
theorem am_wS_app {a b : List am_V} (h1 : am_wS a) (h2 : am_wS b) : am_wS (a ++ b) := by
  intro v hv
  rcases List.mem_append.mp hv with h | h
  · exact h1 v h
  · exact h2 v h
theorem am_wS_tk {a : List am_V} (k : Nat) (h : am_wS a) : am_wS (a.take k) := fun v hv => h v (List.mem_of_mem_take hv)
theorem am_wS_dr {a : List am_V} (k : Nat) (h : am_wS a) : am_wS (a.drop k) := fun v hv => h v (List.mem_of_mem_drop hv)
theorem am_wS_rv {a : List am_V} (h : am_wS a) : am_wS a.reverse := fun v hv => h v (List.mem_reverse.mp hv)
theorem am_wS_op {r : Option am_V} (h : ∀ v, r = some v → am_wV v) : am_wS r.toList := by
  intro v hv
  cases r with
  | none => cases hv
  | some u =>
    cases List.mem_singleton.mp hv
    exact h _ rfl
theorem am_opm {E : am_E} (r : Option am_V) (st : List am_V) : ((r.toList ++ st).map (am_cv E)) = (r.map (am_cv E)).toList ++ st.map (am_cv E) := by
  cases r <;> simp
theorem am_cats {E : am_E} (st : List am_V) : ((st.map (am_cv E)).map fun v => v.category).sum = st.length := by
  induction st with
  | nil => rfl
  | cons v st ih =>
    rw [List.map_cons, List.map_cons, List.sum_cons, ih, am_cv_c, List.length_cons]
    omega
/-- what is asked of a callee: its words are good, and are among ours -/
def am_TsOk (E : am_E) : Prop := ∀ w ∈ e_Ts E, (w.onTables && w.keeps) = true ∨ ∃ ty, w = .arrayClass ty
theorem am_gin {E : am_E} (h : am_TsOk E) {T' : am_T} (hc : Cond.code T'.1 T'.2.1 T'.2.2.1 T'.2.2.2 ∈ e_Ts E) : GoodIn (e_Ts E) (am_ws E T') := by
  intro w hw
  rcases List.mem_cons.mp hw with rfl | hw
  · exact ⟨hc, h _ hc⟩
  · exact ⟨hw, h w hw⟩
theorem am_split {st : List am_V} {na : Nat} {v : am_V} (h : st[na]? = some v) : st = st.take na ++ v :: st.drop (na + 1) := by
  have hl : na < st.length := (List.getElem?_eq_some_iff.mp h).1
  have e1 : st.drop na = v :: st.drop (na + 1) := by
    rw [List.drop_eq_getElem_cons hl]
    congr 1
    exact (List.getElem?_eq_some_iff.mp h).2
  rw [← e1, List.take_append_drop]
theorem am_taker {st : List am_V} {na : Nat} {v : am_V} (h : st[na]? = some v) : (st.take (na + 1)).reverse = v :: (st.take na).reverse := by
  rw [List.take_succ, h]
  simp
/-- the facts that a call's row wants of its callee -/
def am_Ce (E : am_E) (T T' : am_T) (na : Nat) : Prop := am_nN E ∧ am_TsOk E ∧ Cond.code T'.1 T'.2.1 T'.2.2.1 T'.2.2.2 ∈ e_Ts E ∧ Cond.initialized T'.1.cls ∈ e_Ts E ∧ (T'.1.cls ≠ "java/lang/invoke/MethodHandle" ∧ T'.1.cls ≠ "java/lang/invoke/VarHandle" ∧ (parseMethodDescriptor T'.1.desc).map (fun d => d.parameters.length) = some na) ∧ T'.2.2.1 ≤ 21
theorem am_G.ofCall {E : am_E} {tb : Nat → am_T} {P : am_P} {T : am_T} {pc : Nat} {f : am_I} (h : ∀ (ls : am_L) (st : List am_V) (M : am_M) (x : am_F ⊕ (am_Y ⊕ (Nat × List am_V × am_F))), f (pc, ls, st, M) = some x → ∃ w, x = .inr (.inr w) ∧ w.2.2.2.2.2 = M ∧ w.2.2.2.1 = ls ∧ am_Cl E tb P T pc ls st M w) : am_G E tb P T pc f := by
  refine ⟨fun ls st M => ⟨fun q hq => ?_, fun y hy => ?_, fun w hw => ?_⟩, fun ls st M => ⟨fun q hq => ?_, fun y hy => ?_, fun w hw => ?_⟩⟩
  · obtain ⟨r, e1, -⟩ := h ls st M _ hq
    cases e1
  · obtain ⟨r, e1, -⟩ := h ls st M _ hy
    cases e1
  · obtain ⟨r, e1, h1, h2, -⟩ := h ls st M _ hw
    cases e1
    exact ⟨h1, h2⟩
  · obtain ⟨r, e1, -⟩ := h ls st M _ hq
    cases e1
  · obtain ⟨r, e1, -⟩ := h ls st M _ hy
    cases e1
  · obtain ⟨r, e1, -, -, h3⟩ := h ls st M _ hw
    cases e1
    exact h3
theorem am_call_0 {P : am_P} {k d j : Nat} {as : List am_V} {M : am_M} {y : am_Y} (h : am_call P k d j as M = some y) : 1 ≤ d := by
  cases d with
  | zero => cases h
  | succ d => omega
section AmS3
variable {E : am_E} {tb : Nat → am_T} {P : am_P} {T : am_T} {pc n j na ci index : Nat}
theorem s_callS (hj : 3 ≤ j) (hC : am_Ce E T (tb j) na) (hl : Cond.methodLink T.1.cls index (tb j).1 ∈ e_Ts E) (hs : Cond.static (tb j).1 ∈ e_Ts E) (hd : decode T.2.1 pc = .ok (.invokestatic index, 3)) (hn : pc + 3 = n) : am_G E tb P T pc (i_callS j na n) := by
  subst hn
  refine am_G.ofCall (fun ls st M x h => ?_)
  unfold i_callS at h
  dsimp only at h
  split at h
  · next hlen =>
    cases h
    refine ⟨_, rfl, rfl, rfl, ?_⟩
    intro k d y p l e R s m args below meth c Q H locs cells slots n0 k0 lsC hI hy hm X hS hR hL hf1 hf2 hb1 hb2 kk
    have hd1 := am_call_0 hy
    obtain ⟨hN, hT, hcode, hini, hdd, hml⟩ := hC
    have hM := hI j _ M y hj hy (am_wS_rv (am_wS_tk na hS)) hR.2.1
    have hts := X.2.2.2.2.1
    have c1 := hR.2.2.1
    have c2 := hR.2.2.2.1
    obtain ⟨m1, m2⟩ := hm
    have cw : CallB R s args T.1.cls index (tb j).1 (tb j).2.1 (tb j).2.2.1 (tb j).2.2.2 (am_ws E (tb j)) (am_rm d M y.2) (y.2.1 - M.1) (y.2.2.1 - M.2.1) na := callB_of na hts (am_gin hT hcode) rfl rfl rfl (hts _ hini) (hts _ hl) hdd ⟨by show d - 1 + 1 ≤ R.frames; omega, by show 8 + ((tb j).2.2.1 + 11) + 40 * (d - 1) ≤ R.locals; omega⟩
    have est : st.map (am_cv E) = (((st.take na).reverse.map (am_cv E))).reverse ++ (st.drop na).map (am_cv E) := by
      rw [← List.map_reverse, List.reverse_reverse, ← List.map_append, List.take_append_drop]
    refine am_after (va_runS (As := (st.take na).reverse.map (am_cv E)) (rest := (st.drop na).map (am_cv E)) ⟨X.1, X.2.1, X.2.2.1, X.2.2.2.1, hts⟩ hM ⟨cw, hts _ hs⟩ ⟨am_Pc_b hN, fun U hU hW => am_Pc_i hN X hR hU hW⟩ rfl (by simp; omega) hL.1 est (lv_room (by rw [am_cats, List.length_drop]; omega)) hd ⟨by omega, by omega⟩) (fun H' L hLf hH' hw1 hw2 hfr => ?_)
    have k2 := kk H' _ _ _ (am_wS_app (am_wS_op hw2) (am_wS_dr na hS)) (hR.call ⟨m1, m2⟩ hLf hH' hw1 hfr)
    rw [am_opm] at k2
    exact k2
  · cases h
/-- the row for a receiver: any call that takes one -/
theorem am_vst {st : List am_V} {a : Nat} (h : st[na]? = some (.inr (some a))) (ha : 1 ≤ a) : st.map (am_cv E) = (((st.take na).reverse.map (am_cv E))).reverse ++ .ref (e_h E + a) :: (st.drop (na + 1)).map (am_cv E) := by
  conv => lhs; rw [am_split h]
  rw [← List.map_reverse, List.reverse_reverse, List.map_append, List.map_cons, am_cv_p ha]
theorem s_callV {q : vw_C} (hj : 3 ≤ j) (hC : am_Ce E T (tb j) na) (hc : (e_cl E)[ci]? = some q) (hq : q.1 = (tb j).1.cls) (hl : Cond.methodLink T.1.cls index (tb j).1 ∈ e_Ts E) (hs : Cond.instanceMethod (tb j).1 ∈ e_Ts E) (hse : Cond.selects (tb j).1.cls (tb j).1 (tb j).1 ∈ e_Ts E) (hd : decode T.2.1 pc = .ok (.invokevirtual index, 3)) (hn : pc + 3 = n) : am_G E tb P T pc (i_callV ci j na n) := by
  subst hn
  refine am_G.ofCall (fun ls st M x h => ?_)
  unfold i_callV at h
  dsimp only at h
  split at h
  · next hlen =>
    split at h
    · next a hst =>
      split at h
      · next o hm0 =>
        split at h
        · next ho =>
          cases h
          refine ⟨_, rfl, rfl, rfl, ?_⟩
          intro k d y p l e R s m args below meth c Q H locs cells slots n0 k0 lsC hI hy hm X hS hR hL hf1 hf2 hb1 hb2 kk
          have hd1 := am_call_0 hy
          obtain ⟨hN, hT, hcode, hini, hdd, hml⟩ := hC
          have hM := hI j _ M y hj hy (am_wS_rv (am_wS_tk (na + 1) hS)) hR.2.1
          have hts := X.2.2.2.2.1
          have c1 := hR.2.2.1
          have c2 := hR.2.2.2.1
          obtain ⟨m1, m2⟩ := hm
          subst ho
          obtain ⟨ha, hat⟩ := hR.at hm0
          have hcell : ∃ cellB : Cell, H[e_h E + a]? = some cellB ∧ cellB.vm.isStatics = false ∧ s.vm.findClass (tb j).1.cls = some cellB.cls := by
            rw [← hq]
            exact va_recv (tys := []) X.2.2.2.2.2.1.1 (am_P1 hat) (ci := o.1) (q0 := 0) (fs := o.2.map (am_cv E)) hc rfl
          rw [am_taker hst] at hM hy
          have cw : CallB R s args T.1.cls index (tb j).1 (tb j).2.1 (tb j).2.2.1 (tb j).2.2.2 (am_ws E (tb j)) (am_rm d M y.2) (y.2.1 - M.1) (y.2.2.1 - M.2.1) na := callB_of na hts (am_gin hT hcode) rfl rfl rfl (hts _ hini) (hts _ hl) hdd ⟨by show d - 1 + 1 ≤ R.frames; omega, by show 8 + ((tb j).2.2.1 + 11) + 40 * (d - 1) ≤ R.locals; omega⟩
          have ear : (((Sum.inr (some a) : am_V) :: (st.take na).reverse).map (am_cv E)) = .ref (e_h E + a) :: (st.take na).reverse.map (am_cv E) := by rw [List.map_cons, am_cv_p ha]
          refine am_after (va_runV (b := e_h E + a) (As := (st.take na).reverse.map (am_cv E)) (rest := (st.drop (na + 1)).map (am_cv E)) ⟨X.1, X.2.1, X.2.2.1, X.2.2.2.1, hts⟩ hM ⟨cw, hts _ hs, hts _ hse⟩ ⟨am_Pc_b hN, hcell, fun U hU hW => by rw [← ear]; exact am_Pc_i hN X hR hU hW⟩ rfl (by simp; omega) hL.1 (am_vst hst ha) (lv_room (by rw [am_cats, List.length_drop]; omega)) hd ⟨by omega, by omega⟩) (fun H' L hLf hH' hw1 hw2 hfr => ?_)
          have k2 := kk H' _ _ _ (am_wS_app (am_wS_op hw2) (am_wS_dr (na + 1) hS)) (hR.call ⟨m1, m2⟩ hLf hH' hw1 hfr)
          rw [am_opm] at k2
          exact k2
        · cases h
      · cases h
    · cases h
  · cases h
/-- a new object's own making: of a class of ours, by a link or a nest mate's link -/
theorem s_callI (hj : 3 ≤ j) (hC : am_Ce E T (tb j) na) (hr : (tb j).2.2.2 = none) (hnm : (tb j).1.name = "<init>") {host : String} (hl : Cond.methodLink T.1.cls index (tb j).1 ∈ e_Ts E ∨ Cond.methodLinkNest T.1.cls index (tb j).1 host ∈ e_nw E) (hs : Cond.instanceMethod (tb j).1 ∈ e_Ts E) (hd : decode T.2.1 pc = .ok (.invokespecial index, 3)) (hn : pc + 3 = n) : am_G E tb P T pc (i_callI j na n) := by
  subst hn
  refine am_G.ofCall (fun ls st M x h => ?_)
  unfold i_callI at h
  dsimp only at h
  split at h
  · next hlen =>
    split at h
    · next a hst =>
      cases h
      refine ⟨_, rfl, rfl, rfl, ?_⟩
      intro k d y p l e R s m args below meth c Q H locs cells slots n0 k0 lsC hI hy hm X hS hR hL hf1 hf2 hb1 hb2 kk
      have hd1 := am_call_0 hy
      obtain ⟨hN, hT, hcode, hini, hdd, hml⟩ := hC
      have hM := hI j _ M y hj hy (am_wS_rv (am_wS_tk (na + 1) hS)) hR.2.1
      have hts := X.2.2.2.2.1
      have c1 := hR.2.2.1
      have c2 := hR.2.2.2.1
      obtain ⟨m1, m2⟩ := hm
      rw [am_taker hst] at hM hy
      have est : st.map (am_cv E) = (((st.take na).reverse.map (am_cv E))).reverse ++ .ref (am_ad E a) :: (st.drop (na + 1)).map (am_cv E) := by
        conv => lhs; rw [am_split hst]
        rw [← List.map_reverse, List.reverse_reverse, List.map_append, List.map_cons]
        rfl
      have ear : (((Sum.inr (some a) : am_V) :: (st.take na).reverse).map (am_cv E)) = .ref (am_ad E a) :: (st.take na).reverse.map (am_cv E) := by rw [List.map_cons]; rfl
      have hP : PreS s H (am_Pc E (.inr (some a) :: (st.take na).reverse) M) (.ref (am_ad E a) :: (st.take na).reverse.map (am_cv E)) := ⟨am_Pc_b hN, fun U hU hW => by rw [← ear]; exact am_Pc_i hN X hR hU hW⟩
      have hRm : (am_rm d M y.2).frames + 1 ≤ R.frames ∧ 8 + ((tb j).2.2.1 + 11) + (am_rm d M y.2).locals ≤ R.locals := ⟨by show d - 1 + 1 ≤ R.frames; omega, by show 8 + ((tb j).2.2.1 + 11) + 40 * (d - 1) ≤ R.locals; omega⟩
      have hgo : va_Run p l e R s m args below meth c H locs cells slots (y.2.1 - M.1) (y.2.2.1 - M.2.1) (F0 m pc lsC (st.map (am_cv E))) ((st.drop (na + 1)).map (am_cv E)) (am_Qc E y (Value.ref (am_ad E a) :: (st.take na).reverse.map (am_cv E)).toArray) (fun q => e_h E + 1 ≤ q) := by
        rcases hl with hl | hl
        · have cw : CallB R s args T.1.cls index (tb j).1 (tb j).2.1 (tb j).2.2.1 (tb j).2.2.2 (am_ws E (tb j)) (am_rm d M y.2) (y.2.1 - M.1) (y.2.2.1 - M.2.1) na := callB_of na hts (am_gin hT hcode) rfl rfl rfl (hts _ hini) (hts _ hl) hdd hRm
          rw [hr] at cw
          exact va_runI (b := am_ad E a) (As := (st.take na).reverse.map (am_cv E)) (rest := (st.drop (na + 1)).map (am_cv E)) ⟨X.1, X.2.1, X.2.2.1, X.2.2.2.1, hts⟩ hM ⟨cw, hnm, hts _ hs⟩ hP rfl (by simp; omega) hL.1 est (lv_room (by rw [am_cats, List.length_drop]; omega)) hd ⟨by omega, by omega⟩
        · have cw : va_CN R s args T.1.cls index (tb j).1 host (tb j).2.1 (tb j).2.2.1 (tb j).2.2.2 (am_ws E (tb j)) (am_rm d M y.2) (y.2.1 - M.1) (y.2.2.1 - M.2.1) na := va_cnB na hts (am_gin hT hcode) rfl rfl rfl (X.2.2.2.2.2.1.2.2.1 _ hl) (hts _ hini) hdd hRm
          rw [hr] at cw
          exact va_runIN (b := am_ad E a) (As := (st.take na).reverse.map (am_cv E)) (rest := (st.drop (na + 1)).map (am_cv E)) ⟨X.1, X.2.1, X.2.2.1, X.2.2.2.1, hts⟩ hM ⟨cw, hnm, hts _ hs⟩ hP rfl (by simp; omega) hL.1 est (lv_room (by rw [am_cats, List.length_drop]; omega)) hd ⟨by omega, by omega⟩
      refine am_after hgo (fun H' L hLf hH' hw1 hw2 hfr => ?_)
      have k2 := kk H' _ _ _ (am_wS_app (am_wS_op hw2) (am_wS_dr (na + 1) hS)) (hR.call ⟨m1, m2⟩ hLf hH' hw1 hfr)
      rw [am_opm] at k2
      exact k2
    · cases h
  · cases h
end AmS3
/-- number 0: Object's own making; numbers 1 and 2: max and min -/
def am_P0 (P : am_P) : Prop := P 0 = (1, am_at [(0, i_vret)]) ∧ P 1 = (2, am_at [(0, i_max)]) ∧ P 2 = (2, am_at [(0, i_min)])
theorem am_call0 {P : am_P} (h : am_P0 P) {k d : Nat} {v : am_V} {M : am_M} {y : am_Y} (hy : am_call P k d 0 [v] M = some y) : y = (none, M) := by
  cases d with
  | zero => cases hy
  | succ d =>
    rw [am_call_s, h.1, if_pos (Nat.le_of_ble_eq_true rfl)] at hy
    cases k with
    | zero => cases hy
    | succ k =>
      rw [am_run_s] at hy
      cases hy
      rfl
theorem am_call1 {P : am_P} (h : am_P0 P) {k d : Nat} {a b : Int} {M : am_M} {y : am_Y} (hy : am_call P k d 1 [.inl a, .inl b] M = some y) : y = (some (.inl (if a < b then b else a)), M) := by
  cases d with
  | zero => cases hy
  | succ d =>
    rw [am_call_s, h.2.1, if_pos (Nat.le_of_ble_eq_true rfl)] at hy
    cases k with
    | zero => cases hy
    | succ k =>
      rw [am_run_s] at hy
      cases hy
      rfl
theorem am_call2 {P : am_P} (h : am_P0 P) {k d : Nat} {a b : Int} {M : am_M} {y : am_Y} (hy : am_call P k d 2 [.inl a, .inl b] M = some y) : y = (some (.inl (if b < a then b else a)), M) := by
  cases d with
  | zero => cases hy
  | succ d =>
    rw [am_call_s, h.2.2, if_pos (Nat.le_of_ble_eq_true rfl)] at hy
    cases k with
    | zero => cases hy
    | succ k =>
      rw [am_run_s] at hy
      cases hy
      rfl
/-- the two one-step methods take two numbers -/
def i_call2 (j n : Nat) : am_I := fun q => match q.2.2.1 with
  | .inl b :: .inl a :: st => if st.length ≤ 8 then some (.inr (.inr (j, [.inl a, .inl b], n, q.2.1, st, q.2.2.2))) else none
  | _ => none
theorem x_call2 {P : am_P} {d pc n j : Nat} {code : Nat → am_I} {ls : am_L} {st : List am_V} {M : am_M} {Q : Option am_V → am_M → Prop} {a b : Int} (hc : code pc = i_call2 j n) (h8 : st.length ≤ 8) (h : am_Wp P d j [.inl a, .inl b] M (fun r M' => am_Ex P d code (n, ls, r.toList ++ st, M') Q)) : am_Ex P d code (pc, ls, .inl b :: .inl a :: st, M) Q :=
  x_callw (w := (j, [.inl a, .inl b], n, ls, st, M)) (by show code pc _ = _; rw [hc]; simp [i_call2, h8]) h
theorem am_wmax {P : am_P} (h : am_P0 P) (d : Nat) {a b : Int} {M : am_M} {Q : Option am_V → am_M → Prop} (hQ : Q (some (.inl (if a < b then b else a))) M) : am_Wp P (d + 1) 1 [.inl a, .inl b] M Q := am_wp h.2.1 (Nat.le_of_ble_eq_true rfl) (x_max (pc := 0) rfl hQ)
theorem am_wmin {P : am_P} (h : am_P0 P) (d : Nat) {a b : Int} {M : am_M} {Q : Option am_V → am_M → Prop} (hQ : Q (some (.inl (if b < a then b else a))) M) : am_Wp P (d + 1) 2 [.inl a, .inl b] M Q := am_wp h.2.2 (Nat.le_of_ble_eq_true rfl) (x_min (pc := 0) rfl hQ)
theorem am_wobj {P : am_P} (h : am_P0 P) (d : Nat) {v : am_V} {M : am_M} {Q : Option am_V → am_M → Prop} (hQ : Q none M) : am_Wp P (d + 1) 0 [v] M Q := am_wp h.1 (Nat.le_refl 1) (x_vret (pc := 0) rfl hQ)
section AmS4
variable {E : am_E} {tb : Nat → am_T} {P : am_P} {T : am_T} {pc n j na ci index : Nat}
theorem s_obj (hP : am_P0 P) (hl : Cond.methodLink T.1.cls index Lib.objectInit ∈ e_Ts E) (hi : Cond.instanceMethod Lib.objectInit ∈ e_Ts E) (hcd : Cond.code Lib.objectInit ⟨#[0xb1]⟩ 1 none ∈ e_Ts E) (hd : decode T.2.1 pc = .ok (.invokespecial index, 3)) (hn : pc + 3 = n) : am_G E tb P T pc (i_callI 0 0 n) := by
  subst hn
  refine am_G.ofCall (fun ls st M x h => ?_)
  unfold i_callI at h
  dsimp only at h
  split at h
  · next hlen =>
    split at h
    · next a hst =>
      cases h
      refine ⟨_, rfl, rfl, rfl, ?_⟩
      intro k d y p l e R s m args below meth c Q H locs cells slots n0 k0 lsC hI hy hm X hS hR hL hf1 hf2 hb1 hb2 kk
      have hd1 := am_call_0 hy
      have hts := X.2.2.2.2.1
      obtain ⟨v, st', rfl⟩ : ∃ v st', st = v :: st' := by
        cases st with
        | nil => simp at hst
        | cons v st' => exact ⟨v, st', rfl⟩
      have hv : v = .inr (some a) := by simpa using hst
      subst hv
      have hy2 : y = (none, M) := am_call0 hP hy
      subst hy2
      have hls : st'.length ≤ 8 := by simp at hlen; omega
      have k2 := kk H locs cells slots (am_wS_t hS) hR
      refine W.objInit X.1 X.2.1 X.2.2.2.1 (hts _ hl) (hts _ hi) (hts _ hcd) (a := am_ad E a) (rest := st'.map (am_cv E)) rfl (by rw [X.2.2.1]; exact hL.1) rfl hd (by omega) (by show 2 * 0 + _ + 12 ≤ _; rw [am_cats]; omega) ?_
      exact k2
    · cases h
  · cases h
theorem s_max (hP : am_P0 P) (hl : Cond.methodLink T.1.cls index Lib.Math.max.name ∈ e_Ts E) (hs : Cond.static Lib.Math.max.name ∈ e_Ts E) (hi : Cond.initialized "java/lang/Math" ∈ e_Ts E) (hcd : Cond.code Lib.Math.max.name Lib.Math.max.code 2 (some .int) ∈ e_Ts E) (hd : decode T.2.1 pc = .ok (.invokestatic index, 3)) (hn : pc + 3 = n) : am_G E tb P T pc (i_call2 1 n) := by
  subst hn
  refine am_G.ofCall (fun ls st M x h => ?_)
  unfold i_call2 at h
  dsimp only at h
  split at h
  · next b a st' =>
    split at h
    · next hls =>
      cases h
      refine ⟨_, rfl, rfl, rfl, ?_⟩
      intro k d y p l e R s m args below meth c Q H locs cells slots n0 k0 lsC hI hy hm X hS hR hL hf1 hf2 hb1 hb2 kk
      have hd1 := am_call_0 hy
      have hts := X.2.2.2.2.1
      have hy2 : y = (some (.inl (if a < b then b else a)), M) := am_call1 hP hy
      subst hy2
      have hb : am_ok b := am_wS_h hS
      have ha : am_ok a := am_wS_h (am_wS_t hS)
      have c1 := hR.2.2.1
      have c2 := hR.2.2.2.1
      dsimp only at hb1 hb2
      have k2 := kk H locs cells slots (am_wS_c (by show am_ok (if a < b then b else a); split <;> assumption) (am_wS_t (am_wS_t hS))) hR
      refine va_mmax X.1 X.2.1 (by rw [X.2.2.1]; exact hL.1.symm) X.2.2.2.1 (hts _ hl) (hts _ hs) (hts _ hi) (hts _ hcd) (by omega) (by rw [am_cats]; omega) (by omega) (by omega) hd ?_
      have e1 : (if Int32.ofInt a < Int32.ofInt b then Int32.ofInt b else Int32.ofInt a) = Int32.ofInt (if a < b then b else a) := by
        by_cases hab : a < b
        · rw [if_pos hab, if_pos ((am_lt ha hb).mpr hab)]
        · rw [if_neg hab, if_neg (fun q => hab ((am_lt ha hb).mp q))]
      rw [e1]
      exact k2
    · cases h
  · cases h
theorem s_min (hP : am_P0 P) (hl : Cond.methodLink T.1.cls index Lib.Math.min.name ∈ e_Ts E) (hs : Cond.static Lib.Math.min.name ∈ e_Ts E) (hi : Cond.initialized "java/lang/Math" ∈ e_Ts E) (hcd : Cond.code Lib.Math.min.name Lib.Math.min.code 2 (some .int) ∈ e_Ts E) (hd : decode T.2.1 pc = .ok (.invokestatic index, 3)) (hn : pc + 3 = n) : am_G E tb P T pc (i_call2 2 n) := by
  subst hn
  refine am_G.ofCall (fun ls st M x h => ?_)
  unfold i_call2 at h
  dsimp only at h
  split at h
  · next b a st' =>
    split at h
    · next hls =>
      cases h
      refine ⟨_, rfl, rfl, rfl, ?_⟩
      intro k d y p l e R s m args below meth c Q H locs cells slots n0 k0 lsC hI hy hm X hS hR hL hf1 hf2 hb1 hb2 kk
      have hd1 := am_call_0 hy
      have hts := X.2.2.2.2.1
      have hy2 : y = (some (.inl (if b < a then b else a)), M) := am_call2 hP hy
      subst hy2
      have hb : am_ok b := am_wS_h hS
      have ha : am_ok a := am_wS_h (am_wS_t hS)
      have c1 := hR.2.2.1
      have c2 := hR.2.2.2.1
      dsimp only at hb1 hb2
      have k2 := kk H locs cells slots (am_wS_c (by show am_ok (if b < a then b else a); split <;> assumption) (am_wS_t (am_wS_t hS))) hR
      refine va_mmin X.1 X.2.1 (by rw [X.2.2.1]; exact hL.1.symm) X.2.2.2.1 (hts _ hl) (hts _ hs) (hts _ hi) (hts _ hcd) (by omega) (by rw [am_cats]; omega) (by omega) (by omega) hd ?_
      have e1 : (if Int32.ofInt b < Int32.ofInt a then Int32.ofInt b else Int32.ofInt a) = Int32.ofInt (if b < a then b else a) := by
        by_cases hab : b < a
        · rw [if_pos hab, if_pos ((am_lt hb ha).mpr hab)]
        · rw [if_neg hab, if_neg (fun q => hab ((am_lt hb ha).mp q))]
      rw [e1]
      exact k2
    · cases h
  · cases h
end AmS4
-- what runs make only grows
theorem am_run_mo {c : am_K} {code : Nat → am_I} (hG : ∀ pc, am_Mo pc (code pc)) (hc : ∀ j as M y, c j as M = some y → M.1 ≤ y.2.1 ∧ M.2.1 ≤ y.2.2.1) : ∀ (k : Nat) (q : am_F) (y : am_Y), am_run c code k q = some y → q.2.2.2.1 ≤ y.2.1 ∧ q.2.2.2.2.1 ≤ y.2.2.1 := by
  intro k
  induction k with
  | zero => intro q y h; cases h
  | succ k ih =>
    intro q y h
    rw [am_run_s] at h
    obtain ⟨h1, h2, h3⟩ := hG q.1 q.2.1 q.2.2.1 q.2.2.2
    cases hx : code q.1 q with
    | none => rw [hx] at h; cases h
    | some x =>
      rw [hx] at h
      rcases x with q' | y' | w
      · have g := h1 q' hx
        have g2 := ih q' y h
        exact ⟨Nat.le_trans g.1 g2.1, Nat.le_trans g.2 g2.2⟩
      · have g : y' = y := Option.some.inj h
        have g2 := h2 y' hx
        rw [← g, g2]
        exact ⟨Nat.le_refl _, Nat.le_refl _⟩
      · cases hr : c w.1 w.2.1 w.2.2.2.2.2 with
        | none => simp only [am_nx, hr] at h; cases h
        | some z =>
          rw [am_nx_c _ _ w hr] at h
          have g0 := hc _ _ _ _ hr
          rw [(h3 w hx).1] at g0
          have g2 := ih _ y h
          exact ⟨Nat.le_trans g0.1 g2.1, Nat.le_trans g0.2 g2.2⟩
theorem am_call_mo {P : am_P} (hG : ∀ j pc, am_Mo pc ((P j).2 pc)) : ∀ (d k j : Nat) (as : List am_V) (M : am_M) (y : am_Y), am_call P k d j as M = some y → M.1 ≤ y.2.1 ∧ M.2.1 ≤ y.2.2.1 := by
  intro d
  induction d with
  | zero => intro k j as M y h; cases h
  | succ d ih =>
    intro k j as M y h
    rw [am_call_s] at h
    by_cases hn : as.length ≤ (P j).1
    · rw [if_pos hn] at h
      exact am_run_mo (hG j) (ih k) k _ y h
    · rw [if_neg hn] at h
      cases h
/-- A BODY: a run of the abstract machine is a run of the machine -/
theorem am_body {E : am_E} {tb : Nat → am_T} {P : am_P} {T : am_T} {code : Nat → am_I} (hG : ∀ pc, am_G E tb P T pc (code pc)) {l : Launch} {kc d : Nat} (hI : am_IH E tb P l kc d) (hMo : ∀ j as M y, am_call P kc d j as M = some y → M.1 ≤ y.2.1 ∧ M.2.1 ≤ y.2.2.1)
    {p : Program} {e : Env} {R : Room} {s : State} {m : MethodId} {args : Array Value} {below : List Frame} {meth : Method} {c : Code} {Q : State → Prop} {n0 k0 : Nat} (X : am_X E T p s m args meth c) (hf1 : d ≤ R.frames) (hf2 : 40 * d ≤ R.locals) (y : am_Y) (hb1 : y.2.1 ≤ n0 + R.cells) (hb2 : y.2.2.1 ≤ k0 + R.slots)
    (hend : ∀ (pc : Nat) (st : List am_V) (H : Heap) (locs : List Loc) (cells slots : Nat) (lsC : Array Slot), am_Rt T pc st y.1 → am_wS st → am_Re E s.heap n0 k0 y.2 H locs cells slots → W p l e R s m args below meth c H locs cells slots Q (F0 m pc lsC (st.map (am_cv E)))) :
    ∀ (k : Nat) (q : am_F), am_run (am_call P kc d) code k q = some y → ∀ (H : Heap) (locs : List Loc) (cells slots : Nat) (lsC : Array Slot), am_wS q.2.2.1 → am_Re E s.heap n0 k0 q.2.2.2 H locs cells slots → am_Lr E T.2.2.1 q.2.1 lsC → W p l e R s m args below meth c H locs cells slots Q (F0 m q.1 lsC (q.2.2.1.map (am_cv E))) := by
  intro k
  induction k with
  | zero => intro q h; cases h
  | succ k ih =>
    intro q h H locs cells slots lsC hS hR hL
    rw [am_run_s] at h
    obtain ⟨g1, g2, g3⟩ := (hG q.1).2 q.2.1 q.2.2.1 q.2.2.2
    cases hx : code q.1 q with
    | none => rw [hx] at h; cases h
    | some x =>
      rw [hx] at h
      rcases x with q' | y' | w
      · have hm := am_run_mo (fun pc => (hG pc).1) hMo k q' y h
        exact g1 q' hx p l e R s m args below meth c Q H locs cells slots n0 k0 lsC X hS hR hL (Nat.le_trans hm.1 hb1) (Nat.le_trans hm.2 hb2) (fun H' locs' cells' slots' lsC' hS' hR' hL' => ih q' h H' locs' cells' slots' lsC' hS' hR' hL')
      · have e1 : y' = y := Option.some.inj h
        have e2 := ((hG q.1).1 q.2.1 q.2.2.1 q.2.2.2).2.1 y' hx
        rw [e1] at e2
        have hrt := g2 y' hx
        rw [e1] at hrt
        refine hend q.1 q.2.2.1 H locs cells slots lsC hrt hS ?_
        rw [e2]
        exact hR
      · have e3 := ((hG q.1).1 q.2.1 q.2.2.1 q.2.2.2).2.2 w hx
        cases hr : am_call P kc d w.1 w.2.1 w.2.2.2.2.2 with
        | none => simp only [am_nx, hr] at h; cases h
        | some z =>
          rw [am_nx_c _ _ w hr] at h
          rw [e3.1] at hr
          have hm := am_run_mo (fun pc => (hG pc).1) hMo k _ y h
          exact g3 w hx kc d z p l e R s m args below meth c Q H locs cells slots n0 k0 lsC hI hr (hMo _ _ _ _ hr) X hS hR hL hf1 hf2 (Nat.le_trans hm.1 hb1) (Nat.le_trans hm.2 hb2) (fun H' locs' cells' slots' hS' hR' => ih _ h H' locs' cells' slots' lsC hS' hR' (by rw [e3.2]; exact hL))
theorem am_ent_lr {E : am_E} {nL : Nat} {as : List am_V} (hn : as.length ≤ nL) (hw : am_wS as) : am_Lr E nL (am_ent nL as) (((as.map (am_cv E)).map Slot.val ++ List.replicate (nL - (as.map (am_cv E)).length) Slot.unset).toArray) := by
  have key : ∀ (i : Nat) (z : Slot), (((as.map (am_cv E)).map Slot.val ++ List.replicate (nL - (as.map (am_cv E)).length) Slot.unset).toArray)[i]? = some z → (∃ v, as[i]? = some v ∧ z = .val (am_cv E v)) ∨ z = .unset := by
    intro i z hz
    rw [List.getElem?_toArray] at hz
    by_cases hi : i < as.length
    · rw [List.getElem?_append_left (by simpa using hi)] at hz
      simp only [List.getElem?_map] at hz
      cases hv : as[i]? with
      | none => rw [hv] at hz; cases hz
      | some v =>
        rw [hv] at hz
        cases hz
        exact Or.inl ⟨v, rfl, rfl⟩
    · rw [List.getElem?_append_right (by simpa using hi)] at hz
      exact Or.inr (List.eq_of_mem_replicate (List.mem_of_getElem? hz))
  refine ⟨by simp; omega, ⟨fun i v hv hc => ?_, fun i hi => ?_⟩, by simp [am_ent]; omega, fun i v hv => ?_⟩
  · rcases key i _ hv with ⟨u, -, hu⟩ | hu
    · cases hu
      rw [am_cv_c] at hc
      cases hc
    · cases hu
  · rcases key i _ hi with ⟨u, -, hu⟩ | hu
    · cases hu
    · cases hu
  · have hi : as[i]? = some v := by
      unfold am_ent at hv
      by_cases hi : i < as.length
      · rw [List.getElem?_append_left (by simpa using hi), List.getElem?_map] at hv
        cases hu : as[i]? with
        | none => rw [hu] at hv; cases hv
        | some u =>
          rw [hu] at hv
          cases hv
          rfl
      · rw [List.getElem?_append_right (by simpa using hi)] at hv
        have := List.eq_of_mem_replicate (List.mem_of_getElem? hv)
        cases this
    refine ⟨?_, hw v (List.mem_of_getElem? hi)⟩
    have hlt := (List.getElem?_eq_some_iff.mp hi).1
    rw [List.getElem?_toArray, List.getElem?_append_left (by simpa using hlt)]
    simp [hi]
/-- A METHOD: its contract, from the contracts of what it calls -/
theorem am_met {E : am_E} {tb : Nat → am_T} {P : am_P} {j : Nat} {code : Nat → am_I} (hN : am_nN E) (hT : am_TsOk E) (hP : P j = ((tb j).2.2.1, code)) (hpl : plainName (tb j).1.cls = true) (hcode : Cond.code (tb j).1 (tb j).2.1 (tb j).2.2.1 (tb j).2.2.2 ∈ e_Ts E) (hG : ∀ pc, am_G E tb P (tb j) pc (code pc)) (hMo : ∀ j pc, am_Mo pc ((P j).2 pc)) {l : Launch} {k d : Nat} (hI : am_IH E tb P l k d) {as : List am_V} {M : am_M} {y : am_Y} (hy : am_call P k (d + 1) j as M = some y) (hwS : am_wS as) (hwM : am_wM M) :
    Met l (tb j).1 (am_ws E (tb j)) (am_rm (d + 1) M y.2) (am_Pc E as M) (am_Qc E y) (y.2.1 - M.1) (y.2.2.1 - M.2.1) (fun q => e_h E + 1 ≤ q) := by
  have hmo := am_call_mo hMo (d + 1) k j as M y hy
  rw [am_call_s, hP] at hy
  by_cases hn : as.length ≤ (tb j).2.2.1
  · rw [if_pos hn] at hy
    refine Met.ofW (cc := (tb j).2.1) (maxL := (tb j).2.2.1) (ret := (tb j).2.2.2) hpl rfl ?_
    intro p e s m args below meth c s₁ B hml hv
    obtain ⟨rfl, hH, hK⟩ := hv
    have hts0 := atoms_spec (ws := am_ws E (tb j)) B.pre
    have X : am_X E (tb j) p s m (as.map (am_cv E)).toArray meth c := ⟨B.exec, B.bytes, hml, findClass_of_methodNamed B.named, fun w hw => hts0 w (List.mem_cons_of_mem _ hw), hK, fun hi => (name_of_methodNamed B.named B.method).1.trans hi, B.returns, B.notSynchronized⟩
    have hR : am_Re E s.heap M.1 M.2.1 M s.heap [] 0 0 := ⟨hH, hwM, rfl, rfl, fun x hx => (by cases hx), fun q _ => rfl⟩
    rw [entry_eq m (as.map (am_cv E)) (fun v hv => by obtain ⟨u, -, rfl⟩ := List.mem_map.mp hv; exact am_cv_c E u)]
    refine am_body (Q := MQ below (am_Qc E y) (as.map (am_cv E)).toArray s (y.2.1 - M.1) (y.2.2.1 - M.2.1) (fun q => e_h E + 1 ≤ q)) hG hI (am_call_mo hMo d k) X (R := am_rm (d + 1) M y.2) (Nat.le_refl d) (Nat.le_refl _) y (n0 := M.1) (k0 := M.2.1) (by show y.2.1 ≤ M.1 + (y.2.1 - M.1); omega) (by show y.2.2.1 ≤ M.2.1 + (y.2.2.1 - M.2.1); omega) ?_ k (0, am_ent (tb j).2.2.1 as, [], M) hy s.heap [] 0 0 _ (fun v hv => by cases hv) hR (am_ent_lr hn hwS)
    intro pc st H locs cells slots lsC hrt hS hRe
    have e1 : cells = y.2.1 - M.1 := by have := hRe.2.2.1; omega
    have e2 : slots = y.2.2.1 - M.2.1 := by have := hRe.2.2.2.1; omega
    subst e1; subst e2
    have hq : ∀ t : State, t.heap = H → s.WarmedH t.vm → (∀ v, y.1 = some v → am_wV v) → am_Qc E y (as.map (am_cv E)).toArray s (.returned (y.1.map (am_cv E))) t := fun t ht _ hw => ⟨rfl, by rw [ht]; exact hRe.1, hRe.2.1, hw, fun q hq => by rw [ht]; exact hRe.2.2.2.2.2 q hq⟩
    have hlocks : meth.locks = false := B.notSynchronized
    rcases hrt with ⟨hd, z, rfl, hr, ht⟩ | ⟨hd, v, rfl, hr, rt, ht, ho⟩ | ⟨hd, rfl, hr, ht⟩
    · have hw : ∀ v, y.1 = some v → am_wV v := fun v hv => by rw [hr] at hv; cases hv; exact am_wS_h hS
      have hq2 : ∀ t : State, t.heap = H → s.WarmedH t.vm → am_Qc E y (as.map (am_cv E)).toArray s (.returned (some (.int (Int32.ofInt z)))) t := fun t h1 h2 => by have := hq t h1 h2 hw; rw [hr] at this; exact this
      rcases ht with ht | ⟨ht, hz⟩
      · exact W.iret B.exec B.bytes (B.returns.trans ht) hq2 hRe.2.2.2.2.1 hd hlocks
      · refine W.zret B.exec B.bytes (B.returns.trans ht) ?_ hq2 hRe.2.2.2.2.1 hd hlocks
        rcases hz with rfl | rfl <;> decide
    · have hw : ∀ v, y.1 = some v → am_wV v := fun v hv => by rw [hr] at hv; cases hv; exact trivial
      refine W.aret (v := am_cv E (.inr v)) B.exec B.bytes (B.returns.trans ht) ho ?_ (fun t h1 h2 => by have := hq t h1 h2 hw; rw [hr] at this; exact this) hRe.2.2.2.2.1 hd hlocks
      cases v with
      | none => exact Or.inl rfl
      | some a => exact Or.inr ⟨_, rfl⟩
    · have hw : ∀ v, y.1 = some v → am_wV v := fun v hv => by rw [hr] at hv; cases hv
      exact W.vret B.exec B.bytes (B.returns.trans ht) (fun t h1 h2 => by have := hq t h1 h2 hw; rw [hr] at this; exact this) hRe.2.2.2.2.1 hd hlocks
  · rw [if_neg hn] at hy
    cases hy
/-- ALL METHODS of a program, at every depth -/
def am_Prog (E : am_E) (tb : Nat → am_T) (P : am_P) (J : Nat) : Prop :=
  am_nN E ∧ am_TsOk E ∧ am_P0 P ∧ (∀ j, 3 ≤ j → j < J → (P j).1 = (tb j).2.2.1 ∧ plainName (tb j).1.cls = true ∧ Cond.code (tb j).1 (tb j).2.1 (tb j).2.2.1 (tb j).2.2.2 ∈ e_Ts E ∧ ∀ pc, am_G E tb P (tb j) pc ((P j).2 pc)) ∧ ∀ j, J ≤ j → ∀ pc, (P j).2 pc = i_fail
theorem am_Mo_at : ∀ (l : List (Nat × am_I)), (∀ q ∈ l, am_Mo q.1 q.2) → ∀ pc, am_Mo pc (am_at l pc) := by
  intro l
  induction l with
  | nil => intro _ pc ls st M; exact ⟨fun q h => (by cases h), fun y h => (by cases h), fun w h => (by cases h)⟩
  | cons q l ih =>
    intro h pc
    unfold am_at
    by_cases hp : pc = q.1
    · rw [if_pos hp, hp]
      exact h q List.mem_cons_self
    · rw [if_neg hp]
      exact ih (fun u hu => h u (List.mem_cons_of_mem _ hu)) pc
theorem am_Mo_v : am_Mo 0 i_vret := by
  intro ls st M
  refine ⟨fun q h => ?_, fun y h => ?_, fun w h => ?_⟩ <;> unfold i_vret at h <;> dsimp only at h <;> split at h <;> cases h
  rfl
theorem am_Mo_max : am_Mo 0 i_max := by
  intro ls st M
  refine ⟨fun q h => ?_, fun y h => ?_, fun w h => ?_⟩ <;> unfold i_max at h <;> dsimp only at h <;> split at h <;> cases h
  rfl
theorem am_Mo_min : am_Mo 0 i_min := by
  intro ls st M
  refine ⟨fun q h => ?_, fun y h => ?_, fun w h => ?_⟩ <;> unfold i_min at h <;> dsimp only at h <;> split at h <;> cases h
  rfl
theorem am_Prog.mo {E : am_E} {tb : Nat → am_T} {P : am_P} {J : Nat} (h : am_Prog E tb P J) : ∀ j pc, am_Mo pc ((P j).2 pc) := by
  intro j pc
  obtain ⟨-, -, h0, h1, h2⟩ := h
  by_cases hj : 3 ≤ j
  · by_cases hJ : j < J
    · exact ((h1 j hj hJ).2.2.2 pc).1
    · rw [h2 j (by omega) pc]
      intro ls st M
      exact ⟨fun q h => (by cases h), fun y h => (by cases h), fun w h => (by cases h)⟩
  · rcases (show j = 0 ∨ j = 1 ∨ j = 2 by omega) with rfl | rfl | rfl
    · rw [h0.1]
      exact am_Mo_at _ (fun q hq => by cases List.mem_singleton.mp hq; exact am_Mo_v) pc
    · rw [h0.2.1]
      exact am_Mo_at _ (fun q hq => by cases List.mem_singleton.mp hq; exact am_Mo_max) pc
    · rw [h0.2.2]
      exact am_Mo_at _ (fun q hq => by cases List.mem_singleton.mp hq; exact am_Mo_min) pc
theorem am_run_fail {c : am_K} {code : Nat → am_I} (h : ∀ pc, code pc = i_fail) (k : Nat) (q : am_F) : am_run c code k q = none := by
  cases k with
  | zero => rfl
  | succ k =>
    rw [am_run_s, h]
    rfl
theorem am_sound {E : am_E} {tb : Nat → am_T} {P : am_P} {J : Nat} (h : am_Prog E tb P J) (l : Launch) (k : Nat) : ∀ d, am_IH E tb P l k d := by
  intro d
  induction d with
  | zero => intro j as M y _ hy; cases hy
  | succ d ih =>
    intro j as M y hj hy hwS hwM
    have hMo := h.mo
    obtain ⟨hN, hT, -, h1, h2⟩ := h
    by_cases hJ : j < J
    · obtain ⟨e1, hpl, hcode, hG⟩ := h1 j hj hJ
      exact am_met (code := (P j).2) hN hT (by rw [← e1]) hpl hcode hG hMo ih hy hwS hwM
    · rw [am_call_s] at hy
      by_cases hn : as.length ≤ (P j).1
      · rw [if_pos hn, am_run_fail (h2 j (by omega))] at hy
        cases hy
      · rw [if_neg hn] at hy
        cases hy
