/-! SOUNDNESS, third part: instructions that read or write the heap -/
theorem am_P1 {D : va_G} {cl : List vw_C} {q : Nat × va_E} {H : Heap} (h : va_at D cl q H) : va_P D cl [q] H := by
  intro k q' hk
  cases k with
  | zero =>
    cases hk
    exact h
  | succ n => simp at hk
theorem am_Re.at {E : am_E} {H0 : Heap} {n0 k0 : Nat} {M : am_M} {H : Heap} {locs : List Loc} {cells slots a : Nat} {c : am_C} (h : am_Re E H0 n0 k0 M H locs cells slots) (hm : M.2.2 a = some c) : 1 ≤ a ∧ va_at (e_D E) (e_cl E) (e_h E + a, am_cE E c) H := h.1.2.2 a c hm
theorem am_Re.up {E : am_E} {H0 : Heap} {n0 k0 : Nat} {M : am_M} {H H' : Heap} {locs : List Loc} {cells slots a i : Nat} {c0 c : am_C} (h : am_Re E H0 n0 k0 M H locs cells slots) (hm : M.2.2 a = some c0) (hw : am_wC c) (hat : va_at (e_D E) (e_cl E) (e_h E + a, am_cE E c) H') (hz : H'.size = H.size) (ho : ∀ q, q ≠ e_h E + a → H'[q]? = H[q]?) : am_Re E H0 n0 k0 (M.1, M.2.1, am_up M.2.2 a c) H' (locs ++ [⟨e_h E + a, i⟩]) cells slots := by
  obtain ⟨⟨z1, z2, z3⟩, w1, c1, c2, l1, f1⟩ := h
  obtain ⟨ha, -⟩ := z3 a c0 hm
  refine ⟨⟨hz.trans z1, z2, fun x u hx => ?_⟩, fun x u hx => ?_, c1, c2, fun x hx => ?_, fun q hq => ?_⟩
  · by_cases hxa : x = a
    · subst hxa
      have e1 : am_up M.2.2 x c x = some u := hx
      rw [am_up_s] at e1
      cases e1
      exact ⟨ha, hat⟩
    · have e1 : am_up M.2.2 a c x = some u := hx
      rw [am_up_n hxa] at e1
      obtain ⟨g1, g2⟩ := z3 x u e1
      exact ⟨g1, g2.kept (ho _ (fun q => hxa (Nat.add_left_cancel q)))⟩
  · by_cases hxa : x = a
    · subst hxa
      have e1 : am_up M.2.2 x c x = some u := hx
      rw [am_up_s] at e1
      cases e1
      exact hw
    · have e1 : am_up M.2.2 a c x = some u := hx
      rw [am_up_n hxa] at e1
      exact w1 x u e1
  · rcases List.mem_append.mp hx with hx | hx
    · exact l1 x hx
    · rw [List.mem_singleton.mp hx]
      show e_h E + 1 ≤ e_h E + a
      omega
  · rw [ho q (by omega)]
    exact f1 q hq
theorem am_Re.mk {E : am_E} {H0 : Heap} {n0 k0 k : Nat} {M : am_M} {H H' : Heap} {locs : List Loc} {cells slots : Nat} {c : am_C} (h : am_Re E H0 n0 k0 M H locs cells slots) (hw : am_wC c) (hat : va_at (e_D E) (e_cl E) (e_h E + M.1, am_cE E c) H') (hz : H'.size = H.size + 1) (ho : ∀ q, q < H.size → H'[q]? = H[q]?) : am_Re E H0 n0 k0 (M.1 + 1, M.2.1 + k, am_up M.2.2 M.1 c) H' locs (cells + 1) (slots + k) := by
  obtain ⟨⟨z1, z2, z3⟩, w1, c1, c2, l1, f1⟩ := h
  refine ⟨⟨by show H'.size = e_h E + (M.1 + 1); omega, by show 1 ≤ M.1 + 1; omega, fun x u hx => ?_⟩, fun x u hx => ?_, by show M.1 + 1 = _; omega, by show M.2.1 + k = _; omega, l1, fun q hq => ?_⟩
  · have e1 : am_up M.2.2 M.1 c x = some u := hx
    by_cases hxa : x = M.1
    · rw [hxa, am_up_s] at e1
      cases e1
      rw [hxa]
      exact ⟨z2, hat⟩
    · rw [am_up_n hxa] at e1
      obtain ⟨g1, g2⟩ := z3 x u e1
      exact ⟨g1, g2.kept (ho _ g2.lt)⟩
  · have e1 : am_up M.2.2 M.1 c x = some u := hx
    by_cases hxa : x = M.1
    · rw [hxa, am_up_s] at e1
      cases e1
      exact hw
    · rw [am_up_n hxa] at e1
      exact w1 x u e1
  · rw [ho q (by omega)]
    exact f1 q hq
theorem am_fit_ok {E : am_E} {b : Nat} {v : am_V} {ty : FieldType} (h : am_fit b v = true) (hb : (b = 0 ∧ ty = .int) ∨ (b = 1 ∧ ty = .boolean) ∨ (b = 2 ∧ ((∃ C, ty = .object C) ∨ ∃ t, ty = .array t))) : narrow ty (am_cv E v) = am_cv E v ∧ fits ty (am_cv E v) = true := by
  rcases hb with ⟨rfl, rfl⟩ | ⟨rfl, rfl⟩ | ⟨rfl, ht⟩
  · rcases v with z | r
    · exact ⟨rfl, rfl⟩
    · cases h
  · rcases v with z | r
    · have hz : z = 0 ∨ z = 1 := by simpa [am_fit] using h
      rcases hz with rfl | rfl
      · exact ⟨show narrow .boolean (.int (Int32.ofInt 0)) = .int (Int32.ofInt 0) by decide, show fits .boolean (.int (Int32.ofInt 0)) = true by decide⟩
      · exact ⟨show narrow .boolean (.int (Int32.ofInt 1)) = .int (Int32.ofInt 1) by decide, show fits .boolean (.int (Int32.ofInt 1)) = true by decide⟩
    · cases h
  · rcases v with z | r
    · cases h
    · rcases ht with ⟨C, rfl⟩ | ⟨t, rfl⟩ <;> cases r <;> exact ⟨rfl, rfl⟩
theorem am_ix {i : Int} {N : Nat} (hi : am_ok i) (h0 : 0 ≤ i) (h1 : i < N) : ¬ (Int32.ofInt i < 0 ∨ N ≤ (Int32.ofInt i).toNatClampNeg) := by
  rw [am_cl hi]
  rintro (h | h)
  · have h2 : i < 0 := (am_lt hi am_ok0).mp h
    omega
  · omega
section AmH
variable {p : Program} {l : Launch} {e : Env} {R : Room} {s : State} {m : MethodId} {args : Array Value} {below : List Frame} {meth : Method} {c : Code} {H : Heap} {locs : List Loc} {cells slots : Nat} {Q : State → Prop}
variable {cc : ByteArray} {pc : Nat} {ls : Array Slot} {rest : List Value} {D : va_G} {cl : List vw_C} {a : Nat}
theorem am_Wput (hexec : p.tables.exec = Jvm.exec) (hb : c.code = cc) {own C : String} {Tf : u_T} {N ci index : Nat} {Ts : List Cond} (hts : ∀ w ∈ Ts, w.before args s = true) (hin : ∀ w ∈ u_ws C Tf N, w ∈ Ts) (ty0 : Nat → FieldType) (hty : ∀ k, k < N → parseFieldDescriptor (Tf k).2.2.1 = some (ty0 k)) (hnm : ∀ a, a < N → ∀ b, b < N → a ≠ b → (Tf a).2.1 ≠ (Tf b).2.1) (hown : s.vm.findClass own = some m.cls) (hK : va_K D cl [] s) {fs : List Value} (hat : va_at D cl (a, .inr (ci, fs)) H) (hc : cl[ci]? = some (C, Tf, N)) (k : Nat) (hk : k < N) (hlink : (Cond.fieldLink own index (Tf k).1 (Tf k).2.1 (Tf k).2.2.1).before args s = true) (hfin : (Tf k).2.2.2 = false ∨ ((Tf k).2.2.2 = true ∧ meth.name = "<init>" ∧ (Tf k).1 = own)) {ty : FieldType} {v : Value} (hd : parseFieldDescriptor (Tf k).2.2.1 = some ty) (hn : narrow ty v = v) (hfit : fits ty v = true) (hl : k < fs.length)
    (hdg : decode cc pc = .ok (.putfield index, 3)) (kk : ∀ (H1 : Heap) (i : Nat), va_at D cl (a, .inr (ci, fs.set k v)) H1 → H1.size = H.size → (∀ q, q ≠ a → H1[q]? = H[q]?) → W p l e R s m args below meth c H1 (locs ++ [⟨a, i⟩]) cells slots Q (F0 m (pc + 3) ls rest)) : W p l e R s m args below meth c H locs cells slots Q (F0 m pc ls (v :: .ref a :: rest)) := by
  have hap := va_apart (own := own) hts hin ty0 hty hnm hK hc
  obtain ⟨r, h1, cell, q1, q2, q3, q4⟩ := hat
  have hr : r = (C, Tf, N) := Option.some.inj (h1.symm.trans hc)
  subst hr
  obtain ⟨hS, hfc, kC, hkC, hkind⟩ := hK.1 ci _ hc
  obtain ⟨cf, kf, fi, f, hi, hsl⟩ := hS k hk
  have hst := (u_facts hfc hkC (u_lays hts hin hk) hi).1
  have fin : ∀ H' : Heap, H'[a]? = some (cell.setSlot f.slot v) → H'.size = H.size → (∀ q, q ≠ a → H'[q]? = H[q]?) → W p l e R s m args below meth c H' (locs ++ [⟨a, f.slot⟩]) cells slots Q (F0 m (pc + 3) ls rest) := by
    intro H' e1 e2 e3
    rw [hsl] at e1 ⊢
    exact kk H' _ ⟨_, hc, t_OB.to (V := updV (vp_V fs) k v) ⟨_, e1, q2, q3, t_set q4 hap hk v⟩ (fun j _ => vp_updV_set hl v j)⟩ e2 e3
  have hlay := hts _ (hin _ (u_in_lay hk))
  unfold u_lay at hlay
  rcases hfin with hfin | ⟨hfin, hin2, hdecl⟩
  · rw [if_neg (by rw [hfin]; decide)] at hlay
    have h6 := u_store hfc hkC hkind hlay hi hd hn hfit
    exact W.putK hexec hb (f := f) ⟨hown, hlink, ⟨_, _, _, hi⟩, hst⟩ (by rw [q2]; exact h6) q1 q3 (by rw [hsl]; exact k2_hasslot (q4 k hk)) rfl rfl hdg fin
  · rw [if_pos hfin] at hlay
    have hcf : m.cls = cf := by
      obtain ⟨_, _, c', _, _, _, -, -, hf', -, -, -, hown2, -⟩ := Cond.laysFinal_spec hlay
      have e1 : c' = cf := by have := hi.symm.trans hf'; simp at this; exact this.1.symm
      rw [hdecl] at hown2
      rw [← e1]; exact Option.some.inj (hown.symm.trans hown2)
    have h6 := u_fits hfc hkC hkind (Or.inr hlay) hi hd hn hfit
    exact W.putFinK hexec hb hown hlink hi hst hcf hin2 (by rw [q2]; exact h6) q1 q3 (by rw [hsl]; exact k2_hasslot (q4 k hk)) rfl rfl hdg fin
end AmH
section AmS2
variable {E : am_E} {tb : Nat → am_T} {P : am_P} {T : am_T} {pc n k t ci b : Nat}
theorem s_get {index N : Nat} {C : String} {Tf : u_T} (hc : (e_cl E)[ci]? = some (C, Tf, N)) (hin : ∀ w ∈ u_ws C Tf N, w ∈ e_Ts E) (hk : k < N) (hw : Cond.fieldLink T.1.cls index (Tf k).1 (Tf k).2.1 (Tf k).2.2.1 ∈ e_Ts E) (hd : decode T.2.1 pc = .ok (.getfield index, 3)) (hn : pc + 3 = n) : am_G E tb P T pc (i_get ci k n) := by
  subst hn
  refine am_G.ofStep (fun ls st M x h => ?_)
  unfold i_get at h
  dsimp only at h
  split at h
  · next a st' =>
    split at h
    · next o hm =>
      split at h
      · next ho =>
        split at h
        · next v hv =>
          cases h
          refine ⟨_, rfl, Nat.le_refl _, Nat.le_refl _, ?_⟩
          intro p l e R s m args below meth c Q H locs cells slots n0 k0 lsC X hS hR hL _ _ kk
          obtain ⟨ha, hat⟩ := hR.at hm
          subst ho
          have hwv : am_wV v := hR.2.1 a _ hm v (List.mem_of_getElem? hv)
          rw [List.map_cons, am_cv_p ha]
          refine va_get (D := e_D E) (cl := e_cl E) (ws := [(e_h E + a, am_cE E (.inl o))]) (tys := []) (ci := o.1) (v := am_cv E v) X.1 X.2.1 X.2.2.2.2.1 hin X.2.2.2.1 X.2.2.2.2.2.1.1 (am_P1 hat) 0 (fs := o.2.map (am_cv E)) rfl hc k hk (X.2.2.2.2.1 _ hw) (fun _ h9 => h9) (by rw [List.getElem?_map, hv]; rfl) hd ?_
          exact kk H locs cells slots lsC (am_wS_c hwv (am_wS_t hS)) hR hL
        · cases h
      · cases h
    · cases h
  · cases h
theorem s_put {index N : Nat} {C : String} {Tf : u_T} {ty : FieldType} (hc : (e_cl E)[ci]? = some (C, Tf, N)) (hin : ∀ w ∈ u_ws C Tf N, w ∈ e_Ts E) (ty0 : Nat → FieldType) (hty : ∀ k, k < N → parseFieldDescriptor (Tf k).2.2.1 = some (ty0 k)) (hnm : ∀ a, a < N → ∀ b, b < N → a ≠ b → (Tf a).2.1 ≠ (Tf b).2.1) (hk : k < N) (hw : Cond.fieldLink T.1.cls index (Tf k).1 (Tf k).2.1 (Tf k).2.2.1 ∈ e_Ts E) (hfin : (Tf k).2.2.2 = false ∨ ((Tf k).2.2.2 = true ∧ T.1.name = "<init>" ∧ (Tf k).1 = T.1.cls)) (hdt : parseFieldDescriptor (Tf k).2.2.1 = some ty) (hb : (b = 0 ∧ ty = .int) ∨ (b = 1 ∧ ty = .boolean) ∨ (b = 2 ∧ ((∃ C, ty = .object C) ∨ ∃ t, ty = .array t))) (hd : decode T.2.1 pc = .ok (.putfield index, 3)) (hn : pc + 3 = n) : am_G E tb P T pc (i_put ci k b n) := by
  subst hn
  refine am_G.ofStep (fun ls st M x h => ?_)
  unfold i_put at h
  dsimp only at h
  split at h
  · next v a st' =>
    split at h
    · next o hm =>
      split at h
      · next ho =>
        cases h
        refine ⟨_, rfl, Nat.le_refl _, Nat.le_refl _, ?_⟩
        intro p l e R s m args below meth c Q H locs cells slots n0 k0 lsC X hS hR hL _ _ kk
        obtain ⟨ha, hat⟩ := hR.at hm
        obtain ⟨ho, hl, hv⟩ := ho
        subst ho
        have hwv : am_wV v := am_wS_h hS
        have hwo : ∀ u ∈ o.2, am_wV u := hR.2.1 a _ hm
        obtain ⟨hnar, hfit⟩ := am_fit_ok (E := E) hv hb
        rw [List.map_cons, List.map_cons, am_cv_p ha]
        refine am_Wput (D := e_D E) (cl := e_cl E) (ci := o.1) X.1 X.2.1 X.2.2.2.2.1 hin ty0 hty hnm X.2.2.2.1 X.2.2.2.2.2.1.1 (fs := o.2.map (am_cv E)) hat hc k hk (X.2.2.2.2.1 _ hw) (hfin.imp id (fun g => ⟨g.1, X.2.2.2.2.2.2.1 g.2.1, g.2.2⟩)) hdt hnar hfit (by rw [List.length_map]; exact hl) hd (fun H1 i hat1 hz ho1 => ?_)
        refine kk H1 _ cells slots lsC (am_wS_t (am_wS_t hS)) (hR.up (c := .inl (o.1, o.2.set k v)) hm ?_ ?_ hz ho1) hL
        · intro u hu
          rcases List.mem_or_eq_of_mem_set hu with hu | rfl
          · exact hwo u hu
          · exact hwv
        · show va_at _ _ (_, .inr (o.1, (o.2.set k v).map (am_cv E))) H1
          rw [List.map_set]
          exact hat1
      · cases h
    · cases h
  · cases h
theorem s_iald (hkd : (e_kd E)[t]? = some .int) (hd : decode T.2.1 pc = .ok (.iaload, 1)) (hn : pc + 1 = n) : am_G E tb P T pc (i_iald t n) := by
  subst hn
  refine am_G.ofStep (fun ls st M x h => ?_)
  unfold i_iald at h
  dsimp only at h
  split at h
  · next i a st' =>
    split at h
    · next o hm =>
      split at h
      · next ho =>
        cases h
        refine ⟨_, rfl, Nat.le_refl _, Nat.le_refl _, ?_⟩
        intro p l e R s m args below meth c Q H locs cells slots n0 k0 lsC X hS hR hL _ _ kk
        obtain ⟨ha, hat⟩ := hR.at hm
        obtain ⟨ho, h0, h1⟩ := ho
        subst ho
        have hi : am_ok i := am_wS_h hS
        have hwo : ∀ j, j < o.2.1 → am_ok (o.2.2 j) := hR.2.1 a _ hm
        rw [List.map_cons, List.map_cons, am_cv_p ha]
        refine W.iald (v := .int (Int32.ofInt (o.2.2 i.toNat))) X.1 X.2.1 hat ((X.2.2.2.2.2.1.2.1 _ _ hkd).1 o.2.1 (fun j => .int (Int32.ofInt (o.2.2 j)))) (fun q => by cases q) (by show ¬ (Int32.ofInt i < 0 ∨ (arrV _ _ _).slots.size ≤ _); rw [arrV_size]; exact am_ix hi h0 h1) (by show (arrV _ _ _).slots[_]? = _; rw [am_cl hi, arrV_read _ _ (show i.toNat < o.2.1 by omega)]) rfl rfl hd ?_
        exact kk H locs cells slots lsC (am_wS_c (hwo _ (by omega)) (am_wS_t (am_wS_t hS))) hR hL
      · cases h
    · cases h
  · cases h
theorem s_zald (hkd : (e_kd E)[t]? = some .boolean) (hd : decode T.2.1 pc = .ok (.baload, 1)) (hn : pc + 1 = n) : am_G E tb P T pc (i_iald t n) := by
  subst hn
  refine am_G.ofStep (fun ls st M x h => ?_)
  unfold i_iald at h
  dsimp only at h
  split at h
  · next i a st' =>
    split at h
    · next o hm =>
      split at h
      · next ho =>
        cases h
        refine ⟨_, rfl, Nat.le_refl _, Nat.le_refl _, ?_⟩
        intro p l e R s m args below meth c Q H locs cells slots n0 k0 lsC X hS hR hL _ _ kk
        obtain ⟨ha, hat⟩ := hR.at hm
        obtain ⟨ho, h0, h1⟩ := ho
        subst ho
        have hi : am_ok i := am_wS_h hS
        have hwo : ∀ j, j < o.2.1 → am_ok (o.2.2 j) := hR.2.1 a _ hm
        rw [List.map_cons, List.map_cons, am_cv_p ha]
        refine W.zald (v := .int (Int32.ofInt (o.2.2 i.toNat))) X.1 X.2.1 hat ((X.2.2.2.2.2.1.2.1 _ _ hkd).1 o.2.1 (fun j => .int (Int32.ofInt (o.2.2 j)))) (fun q => by cases q) (by show ¬ (Int32.ofInt i < 0 ∨ (arrV _ _ _).slots.size ≤ _); rw [arrV_size]; exact am_ix hi h0 h1) (by show (arrV _ _ _).slots[_]? = _; rw [am_cl hi, arrV_read _ _ (show i.toNat < o.2.1 by omega)]) rfl rfl hd ?_
        exact kk H locs cells slots lsC (am_wS_c (hwo _ (by omega)) (am_wS_t (am_wS_t hS))) hR hL
      · cases h
    · cases h
  · cases h
theorem am_fu_c (f : Nat → Int) (i : Nat) (z : Int) : (fun j => Value.int (Int32.ofInt (am_fu f i z j))) = updV (fun j => Value.int (Int32.ofInt (f j))) i (.int (Int32.ofInt z)) := by
  funext j
  by_cases hj : j = i
  · simp [am_fu, updV, hj]
  · simp [am_fu, updV, hj]
theorem s_iast (hkd : (e_kd E)[t]? = some .int) (hd : decode T.2.1 pc = .ok (.iastore, 1)) (hn : pc + 1 = n) : am_G E tb P T pc (i_iast t b n) := by
  subst hn
  refine am_G.ofStep (fun ls st M x h => ?_)
  unfold i_iast at h
  dsimp only at h
  split at h
  · next z i a st' =>
    split at h
    · next o hm =>
      split at h
      · next ho =>
        cases h
        refine ⟨_, rfl, Nat.le_refl _, Nat.le_refl _, ?_⟩
        intro p l e R s m args below meth c Q H locs cells slots n0 k0 lsC X hS hR hL _ _ kk
        obtain ⟨ha, hat⟩ := hR.at hm
        obtain ⟨ho, ⟨h0, h1⟩, hv⟩ := ho
        subst ho
        have hi : am_ok i := am_wS_h (am_wS_t hS)
        have hz : am_ok z := am_wS_h hS
        have hwo : ∀ j, j < o.2.1 → am_ok (o.2.2 j) := hR.2.1 a _ hm
        rw [List.map_cons, List.map_cons, List.map_cons, am_cv_p ha]
        refine W.iast X.1 X.2.1 hat ((X.2.2.2.2.2.1.2.1 _ _ hkd).1 o.2.1 (fun j => .int (Int32.ofInt (o.2.2 j)))) (fun q => by cases q) (by show ¬ (Int32.ofInt i < 0 ∨ (arrV _ _ _).slots.size ≤ _); rw [arrV_size]; exact am_ix hi h0 h1) rfl rfl hd (fun H1 e1 hz1 ho1 => ?_)
        refine kk H1 _ cells slots lsC (am_wS_t (am_wS_t (am_wS_t hS))) (hR.up (c := .inr (.inl (o.1, o.2.1, am_fu o.2.2 i.toNat z))) hm ?_ ?_ hz1 ho1) hL
        · intro j hj
          show am_ok (am_fu o.2.2 i.toNat z j)
          unfold am_fu
          split
          · exact hz
          · exact hwo j hj
        · show H1[e_h E + a]? = some (arrV (e_dA E o.1) o.2.1 (fun j => .int (Int32.ofInt (am_fu o.2.2 i.toNat z j))))
          rw [am_fu_c, ← arrV_store, e1, am_cl hi]
          rfl
      · cases h
    · cases h
  · cases h
theorem s_zast (hkd : (e_kd E)[t]? = some .boolean) (hd : decode T.2.1 pc = .ok (.bastore, 1)) (hn : pc + 1 = n) : am_G E tb P T pc (i_iast t 1 n) := by
  subst hn
  refine am_G.ofStep (fun ls st M x h => ?_)
  unfold i_iast at h
  dsimp only at h
  split at h
  · next z i a st' =>
    split at h
    · next o hm =>
      split at h
      · next ho =>
        cases h
        refine ⟨_, rfl, Nat.le_refl _, Nat.le_refl _, ?_⟩
        intro p l e R s m args below meth c Q H locs cells slots n0 k0 lsC X hS hR hL _ _ kk
        obtain ⟨ha, hat⟩ := hR.at hm
        obtain ⟨ho, ⟨h0, h1⟩, hv⟩ := ho
        subst ho
        have hi : am_ok i := am_wS_h (am_wS_t hS)
        have hz : am_ok z := am_wS_h hS
        have hwo : ∀ j, j < o.2.1 → am_ok (o.2.2 j) := hR.2.1 a _ hm
        have hnar : narrow .boolean (.int (Int32.ofInt z)) = .int (Int32.ofInt z) := (am_fit_ok (E := E) (v := .inl z) hv (Or.inr (Or.inl ⟨rfl, rfl⟩))).1
        rw [List.map_cons, List.map_cons, List.map_cons, am_cv_p ha]
        refine W.zast X.1 X.2.1 hat ((X.2.2.2.2.2.1.2.1 _ _ hkd).1 o.2.1 (fun j => .int (Int32.ofInt (o.2.2 j)))) (fun q => by cases q) (by show ¬ (Int32.ofInt i < 0 ∨ (arrV _ _ _).slots.size ≤ _); rw [arrV_size]; exact am_ix hi h0 h1) rfl rfl hd (fun H1 e1 hz1 ho1 => ?_)
        rw [hnar] at e1
        refine kk H1 _ cells slots lsC (am_wS_t (am_wS_t (am_wS_t hS))) (hR.up (c := .inr (.inl (o.1, o.2.1, am_fu o.2.2 i.toNat z))) hm ?_ ?_ hz1 ho1) hL
        · intro j hj
          show am_ok (am_fu o.2.2 i.toNat z j)
          unfold am_fu
          split
          · exact hz
          · exact hwo j hj
        · show H1[e_h E + a]? = some (arrV (e_dA E o.1) o.2.1 (fun j => .int (Int32.ofInt (am_fu o.2.2 i.toNat z j))))
          rw [am_fu_c, ← arrV_store, e1, am_cl hi]
          rfl
      · cases h
    · cases h
  · cases h
theorem s_aald {C : String} (hkd : (e_kd E)[t]? = some (.object C)) (hd : decode T.2.1 pc = .ok (.aaload, 1)) (hn : pc + 1 = n) : am_G E tb P T pc (i_aald t n) := by
  subst hn
  refine am_G.ofStep (fun ls st M x h => ?_)
  unfold i_aald at h
  dsimp only at h
  split at h
  · next i a st' =>
    split at h
    · next o hm =>
      split at h
      · next ho =>
        cases h
        refine ⟨_, rfl, Nat.le_refl _, Nat.le_refl _, ?_⟩
        intro p l e R s m args below meth c Q H locs cells slots n0 k0 lsC X hS hR hL _ _ kk
        obtain ⟨ha, hat⟩ := hR.at hm
        obtain ⟨ho, h0, h1⟩ := ho
        subst ho
        have hi : am_ok i := am_wS_h hS
        rw [List.map_cons, List.map_cons, am_cv_p ha]
        refine W.aald (ty := .object C) (v := am_cv E (.inr (o.2.2 i.toNat))) X.1 X.2.1 hat ((X.2.2.2.2.2.1.2.1 _ _ hkd).1 o.2.1 (fun j => va_rf ((o.2.2 j).map (am_ad E)))) rfl (fun q => by cases q) (by show ¬ (Int32.ofInt i < 0 ∨ (arrV _ _ _).slots.size ≤ _); rw [arrV_size]; exact am_ix hi h0 h1) (by show (arrV _ _ _).slots[_]? = _; rw [am_cl hi, arrV_read _ _ (show i.toNat < o.2.1 by omega)]; rfl) rfl rfl hd ?_
        exact kk H locs cells slots lsC (am_wS_c trivial (am_wS_t (am_wS_t hS))) hR hL
      · cases h
    · cases h
  · cases h
theorem s_aast {q : vw_C} (hkd : (e_kd E)[t]? = some (.object q.1)) (hc : (e_cl E)[ci]? = some q) (hd : decode T.2.1 pc = .ok (.aastore, 1)) (hn : pc + 1 = n) : am_G E tb P T pc (i_aast t ci n) := by
  subst hn
  refine am_G.ofStep (fun ls st M x h => ?_)
  unfold i_aast at h
  dsimp only at h
  split at h
  · next v i a st' =>
    split at h
    · next o u hm hu =>
      split at h
      · next ho =>
        cases h
        refine ⟨_, rfl, Nat.le_refl _, Nat.le_refl _, ?_⟩
        intro p l e R s m args below meth c Q H locs cells slots n0 k0 lsC X hS hR hL _ _ kk
        obtain ⟨ha, hat⟩ := hR.at hm
        obtain ⟨hv, hvt⟩ := hR.at hu
        obtain ⟨ho, ⟨h0, h1⟩, huc⟩ := ho
        subst ho
        subst huc
        have hi : am_ok i := am_wS_h (am_wS_t hS)
        have K := X.2.2.2.2.2.1
        obtain ⟨r', hr', cellV, g1, g2, g3, -⟩ := hvt
        have hcls := (K.1.1 u.1 q hc).2
        obtain ⟨kA, comp, k1, k2, k3, -⟩ := (K.2.1 _ _ hkd).2
        have hcomp : comp = (e_D E).1 u.1 := Option.some.inj (k3.symm.trans hcls.1)
        subst hcomp
        obtain ⟨kC, hkC, -⟩ := hcls.2
        rw [List.map_cons, List.map_cons, List.map_cons, am_cv_p ha, am_cv_p hv]
        refine W.aast X.1 X.2.1 hat (fun q h => by cases h) (fun h => by cases h) k1 k2 rfl hkC ⟨fun h => (am_ix hi h0 h1) (Or.inl h), by show _ < (arrV _ _ _).slots.size; rw [arrV_size, am_cl hi]; exact (show i.toNat < o.2.1 by omega)⟩ g1 (fun q h => by rw [g3] at h; cases h) (by rw [g2]; exact hkC) (by rw [g2]; exact va_assign hcls) rfl rfl hd (fun H1 e1 hz1 ho1 => ?_)
        refine kk H1 _ cells slots lsC (am_wS_t (am_wS_t (am_wS_t hS))) (hR.up (c := .inr (.inr (o.1, o.2.1, am_fu o.2.2 i.toNat (some v)))) hm trivial ?_ hz1 ho1) hL
        show H1[e_h E + a]? = some (arrV (e_dA E o.1) o.2.1 (fun j => va_rf ((am_fu o.2.2 i.toNat (some v) j).map (am_ad E))))
        have ef : (fun j => va_rf ((am_fu o.2.2 i.toNat (some v) j).map (am_ad E))) = updV (fun j => va_rf ((o.2.2 j).map (am_ad E))) i.toNat (.ref (e_h E + v)) := by
          funext j
          by_cases hj : j = i.toNat
          · simp [am_fu, updV, hj, va_rf, am_ad_p hv]
          · simp [am_fu, updV, hj]
        rw [ef, ← arrV_store, e1, am_cl hi]
        rfl
      · cases h
    · cases h
  · cases h
theorem s_alen {ty : FieldType} (hkd : (e_kd E)[t]? = some ty) (hd : decode T.2.1 pc = .ok (.arraylength, 1)) (hn : pc + 1 = n) : am_G E tb P T pc (i_alen t n) := by
  subst hn
  refine am_G.ofStep (fun ls st M x h => ?_)
  unfold i_alen at h
  dsimp only at h
  split at h
  · next a st' =>
    split at h
    · next o hm =>
      split at h
      · next ho =>
        cases h
        refine ⟨_, rfl, Nat.le_refl _, Nat.le_refl _, ?_⟩
        intro p l e R s m args below meth c Q H locs cells slots n0 k0 lsC X hS hR hL _ _ kk
        obtain ⟨ha, hat⟩ := hR.at hm
        obtain ⟨ho, h1⟩ := ho
        subst ho
        rw [List.map_cons, am_cv_p ha]
        refine W.alen (n := Int32.ofInt (o.2.1 : Int)) X.1 X.2.1 hat ((X.2.2.2.2.2.1.2.1 _ _ hkd).1 o.2.1 (fun j => .int (Int32.ofInt (o.2.2 j)))) (by show (arrV _ _ _).slots.size.toInt32 = _; rw [arrV_size]; rfl) rfl rfl hd ?_
        exact kk H locs cells slots lsC (am_wS_c (by show am_ok (o.2.1 : Int); constructor <;> omega) (am_wS_t hS)) hR hL
      · cases h
    · next o hm =>
      split at h
      · next ho =>
        cases h
        refine ⟨_, rfl, Nat.le_refl _, Nat.le_refl _, ?_⟩
        intro p l e R s m args below meth c Q H locs cells slots n0 k0 lsC X hS hR hL _ _ kk
        obtain ⟨ha, hat⟩ := hR.at hm
        obtain ⟨ho, h1⟩ := ho
        subst ho
        rw [List.map_cons, am_cv_p ha]
        refine W.alen (n := Int32.ofInt (o.2.1 : Int)) X.1 X.2.1 hat ((X.2.2.2.2.2.1.2.1 _ _ hkd).1 o.2.1 (fun j => va_rf ((o.2.2 j).map (am_ad E)))) (by show (arrV _ _ _).slots.size.toInt32 = _; rw [arrV_size]; rfl) rfl rfl hd ?_
        exact kk H locs cells slots lsC (am_wS_c (by show am_ok (o.2.1 : Int); constructor <;> omega) (am_wS_t hS)) hR hL
      · cases h
    · cases h
  · cases h
theorem s_new {index N : Nat} {C : String} {Tf : u_T} {fs : List am_V} (hc : (e_cl E)[ci]? = some (C, Tf, N)) (hin : ∀ w ∈ u_ws C Tf N, w ∈ e_Ts E) (ty0 : Nat → FieldType) (hty : ∀ k, k < N → parseFieldDescriptor (Tf k).2.2.1 = some (ty0 k)) (hcl : Cond.classLink T.1.cls index C ∈ e_Ts E) (hins : Cond.instantiable C N ∈ e_Ts E) (hini : Cond.initialized C ∈ e_Ts E) (hl : fs.length = N) (hfs : ∀ j, j < N → defaultValue (ty0 j) = vp_V (fs.map (am_cv E)) j) (hwf : am_wS fs) (hd : decode T.2.1 pc = .ok (.new index, 3)) (hn : pc + 3 = n) : am_G E tb P T pc (i_new ci fs n) := by
  subst hn
  subst hl
  refine am_G.ofStep (fun ls st M x h => ?_)
  cases h
  refine ⟨_, rfl, Nat.le_succ _, Nat.le_add_right _ _, ?_⟩
  intro p l e R s m args below meth c Q H locs cells slots n0 k0 lsC X hS hR hL hb1 hb2 kk
  have hKn := X.2.2.2.2.2.1.1.1 ci _ hc
  have hsz : H.size = e_h E + M.1 := hR.1.1
  have c1 := hR.2.2.1
  have c2 := hR.2.2.2.1
  dsimp only at hb1 hb2
  refine W.newcK X.1 X.2.1 X.2.2.2.1 (X.2.2.2.2.1 _ hcl) (X.2.2.2.2.1 _ hins) (X.2.2.2.2.1 _ hini) rfl hd (by omega) (by omega) hKn.2.1 rfl (fun H1 kC hkC e1 z1 o1 => ?_)
  have hat : va_at (e_D E) (e_cl E) (e_h E + M.1, am_cE E (.inl (ci, fs))) H1 := by
    rw [← hsz]
    exact ⟨_, hc, (u_born ty0 X.2.2.2.2.1 hin hKn hkC e1 hty).to hfs⟩
  have k2 := kk H1 locs (cells + 1) (slots + fs.length) lsC (am_wS_c trivial hS) (hR.mk (c := .inl (ci, fs)) hwf hat z1 o1) hL
  dsimp only at k2
  rw [List.map_cons, am_cv_p hR.1.2.1, ← hsz] at k2
  exact k2
theorem s_newa {at0 : ArrayType} {ty : FieldType} (hat0 : newarray.typeOf at0 = ty) (hkd : (e_kd E)[t]? = some ty) (hp : ty = .int ∨ ty = .boolean) (hw : Cond.arrayClass ty ∈ e_Ts E) (hd : decode T.2.1 pc = .ok (.newarray at0, 2)) (hn : pc + 2 = n) : am_G E tb P T pc (i_newa t n) := by
  subst hn
  refine am_G.ofStep (fun ls st M x h => ?_)
  unfold i_newa at h
  dsimp only at h
  split at h
  · next i st' =>
    split at h
    · next hi0 =>
      cases h
      refine ⟨_, rfl, Nat.le_succ _, Nat.le_add_right _ _, ?_⟩
      intro p l e R s m args below meth c Q H locs cells slots n0 k0 lsC X hS hR hL hb1 hb2 kk
      have hsz : H.size = e_h E + M.1 := hR.1.1
      have c1 := hR.2.2.1
      have c2 := hR.2.2.2.1
      dsimp only at hb1 hb2
      have hi : am_ok i := am_wS_h hS
      subst hat0
      have hcb : componentBytes (newarray.typeOf at0) ≤ 4 := by
        rcases hp with hp | hp <;> rw [hp] <;> decide
      have hbytes : i.toNat * componentBytes (newarray.typeOf at0) ≤ 536870912 := Nat.le_trans (Nat.mul_le_mul (show i.toNat ≤ 100000 by omega) hcb) (by decide)
      have hdv : (fun _ : Nat => defaultValue (newarray.typeOf at0)) = fun _ => Value.int (Int32.ofInt 0) := by
        funext _
        rcases hp with hp | hp <;> rw [hp] <;> rfl
      refine va_newaK X.1 X.2.1 (X.2.2.2.2.1 _ hw) rfl hd rfl (fun q => by have := (am_lt hi am_ok0).mp q; omega) (am_cl hi) hbytes (by omega) (by omega) hsz (fun H1 cA e1 z1 o1 hAr hNm => ?_)
      have hcA : cA = e_dA E t := by
        have h2 := (X.2.2.2.2.2.1.2.1 _ _ hkd).2
        rcases hp with hp | hp
        · rw [hp] at h2 hNm
          exact Option.some.inj (hNm.symm.trans h2)
        · rw [hp] at h2 hNm
          exact Option.some.inj (hNm.symm.trans h2)
      have hat : va_at (e_D E) (e_cl E) (e_h E + M.1, am_cE E (.inr (.inl (t, i.toNat, fun _ => 0)))) H1 := by
        show H1[e_h E + M.1]? = some (arrV (e_dA E t) i.toNat (fun _ => .int (Int32.ofInt 0)))
        rw [e1, hdv, hcA]
      have k2 := kk H1 locs (cells + 1) (slots + i.toNat) lsC (am_wS_c trivial (am_wS_t hS)) (hR.mk (c := .inr (.inl (t, i.toNat, fun _ => 0))) (fun _ _ => am_ok0) hat (by rw [hsz]; exact z1) (by rw [hsz]; exact o1)) hL
      dsimp only at k2
      rw [List.map_cons, am_cv_p hR.1.2.1] at k2
      exact k2
    · cases h
  · cases h
theorem s_anewa {index : Nat} {C : String} (hkd : (e_kd E)[t]? = some (.object C)) (hcl : Cond.classLink T.1.cls index C ∈ e_Ts E) (hov : Cond.arrayOver (.object C) ∈ e_nw E) (hd : decode T.2.1 pc = .ok (.anewarray index, 3)) (hn : pc + 3 = n) : am_G E tb P T pc (i_anewa t n) := by
  subst hn
  refine am_G.ofStep (fun ls st M x h => ?_)
  unfold i_anewa at h
  dsimp only at h
  split at h
  · next i st' =>
    split at h
    · next hi0 =>
      cases h
      refine ⟨_, rfl, Nat.le_succ _, Nat.le_add_right _ _, ?_⟩
      intro p l e R s m args below meth c Q H locs cells slots n0 k0 lsC X hS hR hL hb1 hb2 kk
      have hsz : H.size = e_h E + M.1 := hR.1.1
      have c1 := hR.2.2.1
      have c2 := hR.2.2.2.1
      dsimp only at hb1 hb2
      have hi : am_ok i := am_wS_h hS
      refine W.anew X.1 X.2.1 X.2.2.2.1 (X.2.2.2.2.1 _ hcl) (va_AO.use (X.2.2.2.2.2.1.2.2.1 _ hov)) rfl hd rfl (fun q => by have := (am_lt hi am_ok0).mp q; omega) (by rw [am_cl hi]; omega) (by omega) (by rw [am_cl hi]; omega) (fun cA kA comp h1 h2 h3 h4 => ?_)
      have hcA : cA = e_dA E t := by
        obtain ⟨kA', comp', g1, g2, g3, g4⟩ := (X.2.2.2.2.2.1.2.1 _ _ hkd).2
        exact Option.some.inj (h1.symm.trans g4)
      rw [am_cl hi]
      have hat : va_at (e_D E) (e_cl E) (e_h E + M.1, am_cE E (.inr (.inr (t, i.toNat, fun _ => none)))) (H.push { cls := cA, slots := Array.replicate i.toNat .null, vm := .none }) := by
        show (H.push _)[e_h E + M.1]? = some (arrV (e_dA E t) i.toNat (fun _ => .null))
        rw [← hsz, ← arrV_new, hcA]
        simp
      have k2 := kk _ locs (cells + 1) (slots + i.toNat) lsC (am_wS_c trivial (am_wS_t hS)) (hR.mk (c := .inr (.inr (t, i.toNat, fun _ => none))) trivial hat (by simp) (fun q hq => by rw [Array.getElem?_push, if_neg (Nat.ne_of_lt hq)])) hL
      dsimp only at k2
      rw [List.map_cons, am_cv_p hR.1.2.1, ← hsz] at k2
      exact k2
    · cases h
  · cases h
theorem s_sld {n : Nat} {xs : Nat → Int} (hN : am_nN E) (hxs : ∀ j, xs j = (e_xs E j).toInt) (hd : decode T.2.1 pc = .ok (.iaload, 1)) (hn : pc + 1 = n) : am_G E tb P T pc (i_sld (e_L E) xs n) := by
  subst hn
  refine am_G.ofStep (fun ls st M x h => ?_)
  unfold i_sld at h
  dsimp only at h
  split at h
  · next i st' =>
    split at h
    · next hi0 =>
      cases h
      refine ⟨_, rfl, Nat.le_refl _, Nat.le_refl _, ?_⟩
      intro p l e R s m args below meth c Q H locs cells slots n0 k0 lsC X hS hR hL _ _ kk
      have hi : am_ok i := am_wS_h hS
      obtain ⟨scr, g1, g2, g3, g4, g5⟩ := X.2.2.2.2.2.1.2.2.2
      have hcell : H[e_b E]? = some scr := by rw [hR.2.2.2.2.2 _ hN.1]; exact g1
      have e0 : am_cv E (.inl (xs i.toNat)) = .int (e_xs E i.toNat) := by
        show Value.int (Int32.ofInt (xs i.toNat)) = _
        rw [hxs, Int32.ofInt_toInt]
      refine W.iald (a := e_b E) (v := am_cv E (.inl (xs i.toNat))) X.1 X.2.1 hcell g2 g3 (by rw [g4]; exact am_ix hi hi0.1 hi0.2) (by rw [am_cl hi, g5 _ (by omega), e0]) rfl rfl hd ?_
      exact kk H locs cells slots lsC (am_wS_c (by show am_ok (xs i.toNat); rw [hxs]; exact am_okI _) (am_wS_t (am_wS_t hS))) hR hL
    · cases h
  · cases h
theorem s_slen {n : Nat} (hN : am_nN E) (hL0 : e_L E < 2147483648) (hd : decode T.2.1 pc = .ok (.arraylength, 1)) (hn : pc + 1 = n) : am_G E tb P T pc (i_slen (e_L E) n) := by
  subst hn
  refine am_G.ofStep (fun ls st M x h => ?_)
  unfold i_slen at h
  dsimp only at h
  split at h
  · next st' =>
    cases h
    refine ⟨_, rfl, Nat.le_refl _, Nat.le_refl _, ?_⟩
    intro p l e R s m args below meth c Q H locs cells slots n0 k0 lsC X hS hR hL _ _ kk
    obtain ⟨scr, g1, g2, g3, g4, g5⟩ := X.2.2.2.2.2.1.2.2.2
    have hcell : H[e_b E]? = some scr := by rw [hR.2.2.2.2.2 _ hN.1]; exact g1
    refine W.alen (a := e_b E) (n := Int32.ofInt (e_L E)) X.1 X.2.1 hcell g2 (by rw [g4]; rfl) rfl rfl hd ?_
    exact kk H locs cells slots lsC (am_wS_c (by show am_ok (e_L E); constructor <;> omega) (am_wS_t hS)) hR hL
  · cases h
end AmS2
