/-! the claim out of a pure statement about the abstract machine -/
def mv_pure : Prop := ∀ (L : Nat) (xs : Nat → Int), L ≤ 2560 → (∀ j, am_ok (xs j)) → am_Ex mv_P 6 (am_at (kL_law L xs)) (0, [some (.inr (some 0)), none, none, none], [], 1, 0, fun _ => none) (fun r M => r = some (.inl 1) ∧ M.1 ≤ 600001 ∧ M.2.1 ≤ 7302250)
theorem mv_kinds {s : State} {args : Array Value} (hts : ∀ w ∈ lw_tbl, w.before args s = true) : ∃ dA : Nat → ClassId, ∀ (t : Nat) (ty : FieldType), am_kd[t]? = some ty → ArrOfT s (dA t) ty ∧ va_RA s (dA t) ty := by
  obtain ⟨c0, k0, p0, f0, g0, e0⟩ := Cond.arrayClass_spec (hts (.arrayClass .int) (List.mem_filter.mp ac_0).1)
  obtain ⟨c1, k1, p1, f1, g1, e1⟩ := Cond.arrayClass_spec (hts (.arrayClass .boolean) (List.mem_filter.mp ac_1).1)
  obtain ⟨p2, c2, k2, a2, -, g2, e2, f2⟩ := Cond.arrayOver_spec (hts (.arrayOver (.object "MailViews$Mailbox")) (am_nw_in _ ao_B))
  obtain ⟨p3, c3, k3, a3, -, g3, e3, f3⟩ := Cond.arrayOver_spec (hts (.arrayOver (.object "MailViews$Session")) (am_nw_in _ ao_S))
  refine ⟨fun t => if t = 0 then c0 else if t = 1 then c1 else if t = 2 then c2 else c3, fun t ty ht => ?_⟩
  match t, ht with
  | 0, ht => cases ht; exact ⟨fun n z => ⟨fun k h => (by cases h), k0, g0, p0, e0⟩, f0⟩
  | 1, ht => cases ht; exact ⟨fun n z => ⟨fun k h => (by cases h), k1, g1, p1, e1⟩, f1⟩
  | 2, ht => cases ht; exact ⟨fun n z => ⟨fun k h => (by cases h), k2, g2, p2, e2⟩, k2, p2, g2, e2, a2, f2⟩
  | 3, ht => cases ht; exact ⟨fun n z => ⟨fun k h => (by cases h), k3, g3, p3, e3⟩, k3, p3, g3, e3, a3, f3⟩
  | n + 4, ht => simp at ht
theorem mv_classes {s : State} {args : Array Value} (hts : ∀ w ∈ lw_tbl, w.before args s = true) (hin : ∀ q ∈ mv_cl, Cond.instantiable q.1 q.2.2 ∈ lw_tbl) : ∃ D : va_G, va_K D mv_cl [] s := by
  have hg : ∀ w ∈ am_Tg, w.before args s = true := fun w hw => hts w (List.mem_filter.mp hw).1
  have key : ∀ k : Nat, ∃ u : ClassId × (Nat → Nat), ∀ q : vw_C, mv_cl[k]? = some q → u_Kn s q.1 q.2.1 q.2.2 u.1 u.2 := by
    intro k
    cases hq : mv_cl[k]? with
    | none => exact ⟨(0, fun _ => 0), fun q h => (by cases h)⟩
    | some q =>
      have hm := List.mem_of_getElem? hq
      have hw : ∀ w ∈ u_ws q.1 q.2.1 q.2.2, w ∈ am_Tg := by
        match k, hq with
        | 0, hq => cases hq; exact fi_V
        | 1, hq => cases hq; exact fi_B
        | 2, hq => cases hq; exact fi_J
        | 3, hq => cases hq; exact fi_S
        | 4, hq => cases hq; exact fi_C
        | 5, hq => cases hq; exact fi_M
        | n + 6, hq => simp at hq
      obtain ⟨c, i, h⟩ := u_known hg hw (hts _ (hin q hm))
      exact ⟨(c, i), fun q' h' => by cases h'; exact h⟩
  exact ⟨(fun k => (Classical.choose (key k)).1, fun k => (Classical.choose (key k)).2), fun k q hq => Classical.choose_spec (key k) q hq, fun k q h => by simp at h⟩
theorem whole_of (hp : mv_pure) {p : Program} {e : Env} {s : State} {m : MethodId} {below : List Frame} {meth : Method} {c : Code} (l : Launch) {b L : Nat} {xs : Nat → Int32} (hL : L ≤ 2560) (C0 : lw_At p s m meth c b L xs) : W p l e room_1 s m #[Value.ref b] below meth c s.heap [] 0 0 (lw_Z below #[Value.ref b] s) (entryFrame m ([Value.ref b] : List Value).toArray 4) := by
  obtain ⟨hx, hb, hr, hml, hown, hts, hX, hbl, hlocks, -⟩ := C0
  obtain ⟨dA, hdA⟩ := mv_kinds hts
  obtain ⟨D, hD⟩ := mv_classes hts (by
    show ∀ q ∈ mv_cl, _
    refine List.forall_mem_cons.mpr ⟨?_, List.forall_mem_cons.mpr ⟨?_, List.forall_mem_cons.mpr ⟨?_, List.forall_mem_cons.mpr ⟨?_, List.forall_mem_cons.mpr ⟨?_, List.forall_mem_cons.mpr ⟨?_, fun _ h => absurd h List.not_mem_nil⟩⟩⟩⟩⟩⟩ <;> decide +kernel)
  obtain ⟨h, hh⟩ : ∃ h, s.heap.size = h + 1 := ⟨s.heap.size - 1, by omega⟩
  have hN : am_nN (am_En D dA h b L xs) := by
    refine ⟨show b ≤ h by omega, fun w hw => ?_⟩
    have hw2 : w ∈ am_nw := hw
    simp only [am_nw, List.mem_cons, List.not_mem_nil, or_false] at hw2
    rcases hw2 with rfl | rfl | rfl | rfl | rfl | rfl <;> first | exact Or.inl ⟨_, _, _, _, rfl⟩ | exact Or.inr ⟨_, rfl⟩
  have hK : am_KK (am_En D dA h b L xs) s := by
    refine ⟨hD, hdA, fun w hw => ?_, hX⟩
    have hb1 := hts w (am_nw_in w hw)
    have hw2 : w ∈ am_nw := hw
    simp only [am_nw, List.mem_cons, List.not_mem_nil, or_false] at hw2
    rcases hw2 with rfl | rfl | rfl | rfl | rfl | rfl <;> first | exact va_Nw.of rfl hb1 | exact va_AO.of hb1
  obtain ⟨k, y, hrun, hy1, hy2, hy3⟩ := hp L (fun j => (xs j).toInt) hL (fun j => am_okI _)
  have hpr := mv_prog hN
  have X : am_X (am_En D dA h b L xs) tL_law p s m #[Value.ref b] meth c := ⟨hx, hb, hml.trans (by decide +kernel), hown, fun w hw => hts w (List.mem_filter.mp hw).1, hK, fun hi => absurd hi (by decide +kernel), hr, hlocks⟩
  have hwS : am_wS ([.inr (some 0)] : List am_V) := fun v hv => by cases List.mem_singleton.mp hv; exact trivial
  have hent := am_ent_lr (E := am_En D dA h b L xs) (nL := 4) (as := [.inr (some 0)]) (Nat.le_of_ble_eq_true rfl) hwS
  have hent2 : am_Lr (am_En D dA h b L xs) tL_law.2.2.1 (am_ent 4 [.inr (some 0)]) _ := hent
  have hR : am_Re (am_En D dA h b L xs) s.heap 1 0 (1, 0, fun _ => none) s.heap [] 0 0 := ⟨⟨hh, Nat.le_refl 1, fun a c h => (by cases h)⟩, fun a c h => (by cases h), rfl, rfl, fun x h => (by cases h), fun q _ => rfl⟩
  have hB := am_body (Q := lw_Z below #[Value.ref b] s) (below := below) (e := e) (am_all.get _ (ga_L_law hN (by omega))) (am_sound hpr l k 6) (am_call_mo hpr.mo 6 k) X (R := room_1) (n0 := 1) (k0 := 0) (by decide) (by decide) y (by show y.2.1 ≤ 1 + 600000; omega) (by show y.2.2.1 ≤ 0 + 7302250; omega) (by
    intro pc st H locs cells slots lsC hrt hS hRe
    have c1 := hRe.2.2.1
    have c2 := hRe.2.2.2.1
    rcases hrt with ⟨hd, z, rfl, hz, -⟩ | ⟨hd, v, rfl, hz, -⟩ | ⟨hd, rfl, hz, -⟩
    · rw [hy1] at hz
      cases hz
      refine va_forget (fun q hq => ?_) ?_
      · have := hRe.2.2.2.2.1 q hq
        rw [hh]
        exact this
      · refine W.widen (k := 600000) (n := 7302250) (by omega) (by omega) ?_
        exact lw_ret hx hb hr hlocks hd
    · rw [hy1] at hz
      cases hz
    · rw [hy1] at hz
      cases hz) k _ hrun s.heap [] 0 0 _ (fun v hv => by cases hv) hR hent2
  have e0 : entryFrame m ([Value.ref b] : List Value).toArray 4 = F0 m 0 ((([Value.ref b] : List Value).map Slot.val ++ List.replicate (4 - ([Value.ref b] : List Value).length) Slot.unset).toArray) [] := entry_eq m [Value.ref b] (fun v hv => by cases List.mem_singleton.mp hv; rfl) 4
  rw [e0]
  exact hB
