/-! the log's own rows; the journal: cells a .. a+5 -/
def hg (lg : List mv_H) (i : Nat) : mv_H := lg.getD i (0, 0, 0, 0, 0)
def lgOk (lg : List mv_H) : Prop := ∀ i, i < lg.length → (0 ≤ (hg lg i).2.1 ∧ (hg lg i).2.1 < 3) ∧ vc (hg lg i) (rp (lg.take i) (hg lg i).2.1.toNat)
theorem tk_s {lg : List mv_H} {i : Nat} (h : i < lg.length) : lg.take (i + 1) = lg.take i ++ [hg lg i] := by
  rw [List.take_succ, List.getElem?_eq_getElem h]
  unfold hg
  rw [List.getD_eq_getElem?_getD, List.getElem?_eq_getElem h]
  rfl
theorem rp_s {lg : List mv_H} {i : Nat} (h : i < lg.length) : rp (lg.take (i + 1)) = apS (rp (lg.take i)) (hg lg i) := by
  rw [tk_s h, rp_app]
theorem lg_wb {lg : List mv_H} (h : lgOk lg) : ∀ i, i ≤ lg.length → ∀ m, wb (rp (lg.take i) m) := by
  intro i
  induction i with
  | zero => intro _ m; rw [List.take_zero, rp_nil]; exact wb_0
  | succ i ih =>
    intro hi m
    rw [rp_s (by omega)]
    unfold apS
    by_cases hm : m = (hg lg i).2.1.toNat
    · subst hm
      rw [am_fu_s]
      exact wb_ap (ih (by omega) _) (h i (by omega)).2
    · rw [am_fu_n hm]
      exact ih (by omega) m
theorem hg_app {lg : List mv_H} {c : mv_H} {i : Nat} : hg (lg ++ [c]) i = if i < lg.length then hg lg i else if i = lg.length then c else (0, 0, 0, 0, 0) := by
  unfold hg
  rw [List.getD_eq_getElem?_getD, List.getD_eq_getElem?_getD]
  by_cases h : i < lg.length
  · rw [if_pos h, List.getElem?_append_left h]
  · rw [if_neg h, List.getElem?_append_right (by omega)]
    by_cases h2 : i = lg.length
    · rw [if_pos h2, h2, Nat.sub_self]
      rfl
    · rw [if_neg h2, List.getElem?_eq_none (by simp; omega)]
      rfl
theorem lgOk_app {lg : List mv_H} {c : mv_H} (h : lgOk lg) (hm : 0 ≤ c.2.1 ∧ c.2.1 < 3) (hv : vc c (rp lg c.2.1.toNat)) : lgOk (lg ++ [c]) := by
  intro i hi
  rw [List.length_append] at hi
  simp only [List.length_cons, List.length_nil] at hi
  rw [hg_app]
  by_cases h2 : i < lg.length
  · rw [if_pos h2, List.take_append_of_le_length (by omega)]
    exact h i h2
  · rw [if_neg h2, if_pos (by omega), show i = lg.length by omega, List.take_left]
    exact ⟨hm, hv⟩
theorem lgOk_take {lg : List mv_H} {n : Nat} (h : lgOk lg) : lgOk (lg.take n) := by
  intro i hi
  rw [List.length_take] at hi
  have e : hg (lg.take n) i = hg lg i := by
    unfold hg
    rw [List.getD_eq_getElem?_getD, List.getD_eq_getElem?_getD, List.getElem?_take_of_lt (by omega)]
  rw [e, List.take_take, show min i n = i by omega]
  exact h i (by omega)
theorem fp_cg {l l' : List mv_Q} (hl : l.length = l'.length) (h : ∀ k, k < l.length → (mg l k).1 = (mg l' k).1) (u : Int) : fp l u = fp l' u := by
  have h1 := fp_le l u
  rcases Nat.lt_or_ge (fp l u) l.length with hlt | hge
  · refine (fp_is (l := l') (by omega) ?_ (fun j hj => ?_)).symm
    · rw [← h _ hlt]
      exact fp_at l u hlt
    · rw [← h j (by omega)]
      exact fp_ne l u j hj
  · rw [fp_no (l := l') (fun j hj => by rw [← h j (by omega)]; exact fp_ne l u j (by omega))]
    omega
def ui (c : mv_H) (b : mv_B) : mv_H :=
  if c.1 = 1 then (0, c.2.1, c.2.2.1, 0, 0)
  else if c.1 = 2 then (1, c.2.1, c.2.2.1, (mg b.1 (fp b.1 c.2.2.1)).2.1, (mg b.1 (fp b.1 c.2.2.1)).2.2)
  else (2, c.2.1, c.2.2.1, (mg b.1 (fp b.1 c.2.2.1)).2.1, 0)
def jr (μ : Nat → Option am_C) (a : Nat) (E : Nat → mv_H) (op du : Nat) : Prop :=
  μ a = some (.inl (2, [.inr (some (a + 1)), .inr (some (a + 2)), .inr (some (a + 3)), .inr (some (a + 4)), .inr (some (a + 5)), .inl op, .inl du])) ∧ μ (a + 1) = some (.inr (.inl (0, 8, fun k => (E k).1))) ∧ μ (a + 2) = some (.inr (.inl (0, 8, fun k => (E k).2.1))) ∧ μ (a + 3) = some (.inr (.inl (0, 8, fun k => (E k).2.2.1))) ∧ μ (a + 4) = some (.inr (.inl (0, 8, fun k => (E k).2.2.2.1))) ∧ μ (a + 5) = some (.inr (.inl (0, 8, fun k => (E k).2.2.2.2)))
theorem jr.fr {μ μ' : Nat → Option am_C} {a lo hi : Nat} {E : Nat → mv_H} {op du : Nat} (h : jr μ a E op du) (hf : fr μ μ' lo hi) (ho : a + 6 ≤ lo ∨ hi ≤ a) : jr μ' a E op du := by
  obtain ⟨h0, h1, h2, h3, h4, h5⟩ := h
  exact ⟨by rw [hf a (by omega)]; exact h0, by rw [hf (a + 1) (by omega)]; exact h1, by rw [hf (a + 2) (by omega)]; exact h2, by rw [hf (a + 3) (by omega)]; exact h3, by rw [hf (a + 4) (by omega)]; exact h4, by rw [hf (a + 5) (by omega)]; exact h5⟩
theorem am_fu_p {α : Type} (g : α → Int) (E : Nat → α) (t : Nat) (q : α) : am_fu (fun k => g (E k)) t (g q) = fun k => g (am_fu E t q k) := by
  funext k
  by_cases h : k = t <;> simp [am_fu, h]
section Jrn
variable {d nn ss a op du : Nat} {μ : Nat → Option am_C} {Q : Option am_V → am_M → Prop} {E : Nat → mv_H}
theorem c_J_changeCount (h : jr μ a E op du) (hb : op + du < 100000) (hQ : Q (some (.inl ((du : Int) + op))) (nn, ss, μ)) : am_Wp mv_P (d + 1) jJ_changeCount [.inr (some a)] (nn, ss, μ) Q := by
  obtain ⟨h0, h1, h2, h3, h4, h5⟩ := h
  refine am_wp pJ_changeCount (Nat.le_of_ble_eq_true rfl) ?_
  refine x_aload rfl rfl ?_
  refine x_get rfl (by assumption) rfl ?_
  refine x_aload rfl rfl ?_
  refine x_get rfl (by assumption) rfl ?_
  refine x_iadd rfl ⟨by omega, by omega⟩ ?_
  refine x_iret rfl ?_
  exact hQ
theorem c_J_durableCount (h : jr μ a E op du) (hQ : Q (some (.inl (du : Int))) (nn, ss, μ)) : am_Wp mv_P (d + 1) jJ_durableCount [.inr (some a)] (nn, ss, μ) Q := by
  obtain ⟨h0, h1, h2, h3, h4, h5⟩ := h
  refine am_wp pJ_durableCount (Nat.le_of_ble_eq_true rfl) ?_
  refine x_aload rfl rfl ?_
  refine x_get rfl (by assumption) rfl ?_
  refine x_iret rfl ?_
  exact hQ
theorem c_J_makeAllDurable (h : jr μ a E op du) (hb : op + du < 100000) (hQ : ∀ μ', jr μ' a E 0 (du + op) → fr μ μ' a (a + 6) → Q none (nn, ss, μ')) : am_Wp mv_P (d + 1) jJ_makeAllDurable [.inr (some a)] (nn, ss, μ) Q := by
  obtain ⟨h0, h1, h2, h3, h4, h5⟩ := h
  refine am_wp pJ_makeAllDurable (Nat.le_of_ble_eq_true rfl) ?_
  refine x_aload rfl rfl ?_
  refine x_dup rfl ?_
  refine x_get rfl (by assumption) rfl ?_
  refine x_aload rfl rfl ?_
  refine x_get rfl (by assumption) rfl ?_
  refine x_iadd rfl ⟨by omega, by omega⟩ ?_
  refine x_putG rfl (by assumption) (Nat.le_of_ble_eq_true rfl) rfl ?_
  intro μ1 n1 o1
  have h1 := (o1 (a + 1) (by omega)).trans h1
  have h2 := (o1 (a + 2) (by omega)).trans h2
  have h3 := (o1 (a + 3) (by omega)).trans h3
  have h4 := (o1 (a + 4) (by omega)).trans h4
  have h5 := (o1 (a + 5) (by omega)).trans h5
  refine x_aload rfl rfl ?_
  refine x_const rfl ?_
  refine x_putG rfl (by assumption) (Nat.le_of_ble_eq_true rfl) rfl ?_
  intro μ2 n2 o2
  have h1 := (o2 (a + 1) (by omega)).trans h1
  have h2 := (o2 (a + 2) (by omega)).trans h2
  have h3 := (o2 (a + 3) (by omega)).trans h3
  have h4 := (o2 (a + 4) (by omega)).trans h4
  have h5 := (o2 (a + 5) (by omega)).trans h5
  refine x_vret rfl ?_
  exact hQ μ2 ⟨n2, h1, h2, h3, h4, h5⟩ ((fr.one o1 (by omega) (by omega)).tr (fr.one o2 (by omega) (by omega)))
theorem c_J_note {kd m u f z : Int} (h : jr μ a E op du) (ho : op < 8) (hb : op + 1 + du < 100000) (hQ : ∀ μ', jr μ' a (am_fu E op (kd, m, u, f, z)) (if op + 1 < 8 then op + 1 else 0) (if op + 1 < 8 then du else du + (op + 1)) → fr μ μ' a (a + 6) → Q none (nn, ss, μ')) : am_Wp mv_P (d + 2) jJ_note [.inr (some a), .inl kd, .inl m, .inl u, .inl f, .inl z] (nn, ss, μ) Q := by
  obtain ⟨h0, h1, h2, h3, h4, h5⟩ := h
  refine am_wp pJ_note (Nat.le_of_ble_eq_true rfl) ?_
  refine x_aload rfl rfl ?_
  refine x_get rfl (by assumption) rfl ?_
  refine x_aload rfl rfl ?_
  refine x_get rfl (by assumption) rfl ?_
  refine x_iload rfl rfl ?_
  refine x_iastN (j := op) rfl (by assumption) (by omega) (by omega) rfl ?_
  intro μ1 n1 o1
  have h0 := (o1 a (by omega)).trans h0
  have h2 := (o1 (a + 2) (by omega)).trans h2
  have h3 := (o1 (a + 3) (by omega)).trans h3
  have h4 := (o1 (a + 4) (by omega)).trans h4
  have h5 := (o1 (a + 5) (by omega)).trans h5
  refine x_aload rfl rfl ?_
  refine x_get rfl (by assumption) rfl ?_
  refine x_aload rfl rfl ?_
  refine x_get rfl (by assumption) rfl ?_
  refine x_iload rfl rfl ?_
  refine x_iastN (j := op) rfl (by assumption) (by omega) (by omega) rfl ?_
  intro μ2 n2 o2
  have h0 := (o2 a (by omega)).trans h0
  have n1 := (o2 (a + 1) (by omega)).trans n1
  have h3 := (o2 (a + 3) (by omega)).trans h3
  have h4 := (o2 (a + 4) (by omega)).trans h4
  have h5 := (o2 (a + 5) (by omega)).trans h5
  refine x_aload rfl rfl ?_
  refine x_get rfl (by assumption) rfl ?_
  refine x_aload rfl rfl ?_
  refine x_get rfl (by assumption) rfl ?_
  refine x_iload rfl rfl ?_
  refine x_iastN (j := op) rfl (by assumption) (by omega) (by omega) rfl ?_
  intro μ3 n3 o3
  have h0 := (o3 a (by omega)).trans h0
  have n1 := (o3 (a + 1) (by omega)).trans n1
  have n2 := (o3 (a + 2) (by omega)).trans n2
  have h4 := (o3 (a + 4) (by omega)).trans h4
  have h5 := (o3 (a + 5) (by omega)).trans h5
  refine x_aload rfl rfl ?_
  refine x_get rfl (by assumption) rfl ?_
  refine x_aload rfl rfl ?_
  refine x_get rfl (by assumption) rfl ?_
  refine x_iload rfl rfl ?_
  refine x_iastN (j := op) rfl (by assumption) (by omega) (by omega) rfl ?_
  intro μ4 n4 o4
  have h0 := (o4 a (by omega)).trans h0
  have n1 := (o4 (a + 1) (by omega)).trans n1
  have n2 := (o4 (a + 2) (by omega)).trans n2
  have n3 := (o4 (a + 3) (by omega)).trans n3
  have h5 := (o4 (a + 5) (by omega)).trans h5
  refine x_aload rfl rfl ?_
  refine x_get rfl (by assumption) rfl ?_
  refine x_aload rfl rfl ?_
  refine x_get rfl (by assumption) rfl ?_
  refine x_iload rfl rfl ?_
  refine x_iastN (j := op) rfl (by assumption) (by omega) (by omega) rfl ?_
  intro μ5 n5 o5
  have h0 := (o5 a (by omega)).trans h0
  have n1 := (o5 (a + 1) (by omega)).trans n1
  have n2 := (o5 (a + 2) (by omega)).trans n2
  have n3 := (o5 (a + 3) (by omega)).trans n3
  have n4 := (o5 (a + 4) (by omega)).trans n4
  refine x_aload rfl rfl ?_
  refine x_dup rfl ?_
  refine x_get rfl (by assumption) rfl ?_
  refine x_const rfl ?_
  refine x_iadd rfl ⟨by omega, by omega⟩ ?_
  refine x_putG rfl (by assumption) (Nat.le_of_ble_eq_true rfl) rfl ?_
  intro μ6 n6 o6
  have n1 := (o6 (a + 1) (by omega)).trans n1
  have n2 := (o6 (a + 2) (by omega)).trans n2
  have n3 := (o6 (a + 3) (by omega)).trans n3
  have n4 := (o6 (a + 4) (by omega)).trans n4
  have n5 := (o6 (a + 5) (by omega)).trans n5
  rw [am_fu_p (fun q : mv_H => q.1) E op (kd, m, u, f, z)] at n1
  rw [am_fu_p (fun q : mv_H => q.2.1) E op (kd, m, u, f, z)] at n2
  rw [am_fu_p (fun q : mv_H => q.2.2.1) E op (kd, m, u, f, z)] at n3
  rw [am_fu_p (fun q : mv_H => q.2.2.2.1) E op (kd, m, u, f, z)] at n4
  rw [am_fu_p (fun q : mv_H => q.2.2.2.2) E op (kd, m, u, f, z)] at n5
  have hj : jr μ6 a (am_fu E op (kd, m, u, f, z)) (op + 1) du := ⟨n6, n1, n2, n3, n4, n5⟩
  have hf : fr μ μ6 a (a + 6) := (((((fr.one o1 (by omega) (by omega)).tr (fr.one o2 (by omega) (by omega))).tr (fr.one o3 (by omega) (by omega))).tr (fr.one o4 (by omega) (by omega))).tr (fr.one o5 (by omega) (by omega))).tr (fr.one o6 (by omega) (by omega))
  refine x_aload rfl rfl ?_
  refine x_get rfl (by assumption) rfl ?_
  refine x_const rfl ?_
  refine x_icmp_lt rfl (fun hc => ?_) (fun hc => ?_)
  · refine x_vret rfl ?_
    rw [if_pos (show op + 1 < 8 by omega), if_pos (show op + 1 < 8 by omega)] at hQ
    exact hQ μ6 hj hf
  · refine x_aload rfl rfl ?_
    refine x_callV0 rfl (by assumption) (Nat.le_of_ble_eq_true rfl) ?_
    refine c_J_makeAllDurable hj hb (fun μ7 hj7 hf7 => ?_)
    refine x_vret rfl ?_
    rw [if_neg (show ¬ op + 1 < 8 by omega), if_neg (show ¬ op + 1 < 8 by omega)] at hQ
    exact hQ μ7 hj7 (hf.tr hf7)
theorem c_J_noteAdded {m u : Int} (h : jr μ a E op du) (ho : op < 8) (hb : op + 1 + du < 100000) (hQ : ∀ μ', jr μ' a (am_fu E op (0, m, u, 0, 0)) (if op + 1 < 8 then op + 1 else 0) (if op + 1 < 8 then du else du + (op + 1)) → fr μ μ' a (a + 6) → Q none (nn, ss, μ')) : am_Wp mv_P (d + 3) jJ_noteAdded [.inr (some a), .inl m, .inl u] (nn, ss, μ) Q := by
  have h' := h
  obtain ⟨h0, -⟩ := h
  refine am_wp pJ_noteAdded (Nat.le_of_ble_eq_true rfl) ?_
  refine x_aload rfl rfl ?_
  refine x_const rfl ?_
  refine x_iload rfl rfl ?_
  refine x_iload rfl rfl ?_
  refine x_const rfl ?_
  refine x_const rfl ?_
  refine x_callV5 rfl (by assumption) (Nat.le_of_ble_eq_true rfl) ?_
  refine c_J_note h' ho hb (fun μ' hj hf => ?_)
  refine x_vret rfl ?_
  exact hQ μ' hj hf
theorem c_J_noteRemoved {m u f z : Int} (h : jr μ a E op du) (ho : op < 8) (hb : op + 1 + du < 100000) (hQ : ∀ μ', jr μ' a (am_fu E op (1, m, u, f, z)) (if op + 1 < 8 then op + 1 else 0) (if op + 1 < 8 then du else du + (op + 1)) → fr μ μ' a (a + 6) → Q none (nn, ss, μ')) : am_Wp mv_P (d + 3) jJ_noteRemoved [.inr (some a), .inl m, .inl u, .inl f, .inl z] (nn, ss, μ) Q := by
  have h' := h
  obtain ⟨h0, -⟩ := h
  refine am_wp pJ_noteRemoved (Nat.le_of_ble_eq_true rfl) ?_
  refine x_aload rfl rfl ?_
  refine x_const rfl ?_
  refine x_iload rfl rfl ?_
  refine x_iload rfl rfl ?_
  refine x_iload rfl rfl ?_
  refine x_iload rfl rfl ?_
  refine x_callV5 rfl (by assumption) (Nat.le_of_ble_eq_true rfl) ?_
  refine c_J_note h' ho hb (fun μ' hj hf => ?_)
  refine x_vret rfl ?_
  exact hQ μ' hj hf
theorem c_J_noteFlagsSet {m u f : Int} (h : jr μ a E op du) (ho : op < 8) (hb : op + 1 + du < 100000) (hQ : ∀ μ', jr μ' a (am_fu E op (2, m, u, f, 0)) (if op + 1 < 8 then op + 1 else 0) (if op + 1 < 8 then du else du + (op + 1)) → fr μ μ' a (a + 6) → Q none (nn, ss, μ')) : am_Wp mv_P (d + 3) jJ_noteFlagsSet [.inr (some a), .inl m, .inl u, .inl f] (nn, ss, μ) Q := by
  have h' := h
  obtain ⟨h0, -⟩ := h
  refine am_wp pJ_noteFlagsSet (Nat.le_of_ble_eq_true rfl) ?_
  refine x_aload rfl rfl ?_
  refine x_const rfl ?_
  refine x_iload rfl rfl ?_
  refine x_iload rfl rfl ?_
  refine x_iload rfl rfl ?_
  refine x_const rfl ?_
  refine x_callV5 rfl (by assumption) (Nat.le_of_ble_eq_true rfl) ?_
  refine c_J_note h' ho hb (fun μ' hj hf => ?_)
  refine x_vret rfl ?_
  exact hQ μ' hj hf
theorem c_J_hasOpenAdditionTo {m : Int} (h : jr μ a E op du) (ho : op ≤ 8) (h1 : (∃ k, k < op ∧ (E k).1 = 0 ∧ (E k).2.1 = m) → Q (some (.inl 1)) (nn, ss, μ)) (h0 : (¬ ∃ k, k < op ∧ (E k).1 = 0 ∧ (E k).2.1 = m) → Q (some (.inl 0)) (nn, ss, μ)) : am_Wp mv_P (d + 1) jJ_hasOpenAdditionTo [.inr (some a), .inl m] (nn, ss, μ) Q := by
  obtain ⟨g0, g1, g2, g3, g4, g5⟩ := h
  have loop : ∀ (r k : Nat), k + r = op → (∀ j, j < k → ¬ ((E j).1 = 0 ∧ (E j).2.1 = m)) → am_Ex mv_P d (am_at kJ_hasOpenAdditionTo) (2, [some (.inr (some a)), some (.inl m), some (.inl (k : Int))], [], nn, ss, μ) Q := by
    intro r
    induction r with
    | zero =>
      intro k hk hb
      refine x_iload rfl rfl ?_
      refine x_aload rfl rfl ?_
      refine x_get rfl (by assumption) rfl ?_
      refine x_icmp_ge rfl (fun hc => ?_) (fun hc => ?_)
      · refine x_const rfl ?_
        refine x_zret rfl (by first | exact Or.inl rfl | exact Or.inr rfl | assumption | omega) ?_
        exact h0 (fun ⟨j, hj, h2⟩ => hb j (by omega) h2)
      · exact absurd hc (by omega)
    | succ r ih =>
      intro k hk hb
      refine x_iload rfl rfl ?_
      refine x_aload rfl rfl ?_
      refine x_get rfl (by assumption) rfl ?_
      refine x_icmp_ge rfl (fun hc => ?_) (fun hc => ?_)
      · exact absurd hc (by omega)
      · refine x_aload rfl rfl ?_
        refine x_get rfl (by assumption) rfl ?_
        refine x_iload rfl rfl ?_
        refine x_ialdN (j := k) rfl (by assumption) (by omega) (by omega) ?_
        refine x_if_ne rfl (fun hc => ?_) (fun hc => ?_)
        · refine x_iinc rfl rfl ⟨by omega, by omega⟩ ?_
          refine x_goto rfl ?_
          refine ih (k + 1) (by omega) (fun j hj => ?_)
          rcases Nat.lt_or_ge j k with hjk | hjk
          · exact hb j hjk
          · rw [show j = k by omega]
            exact fun q => hc q.1
        · rename_i hc1
          refine x_aload rfl rfl ?_
          refine x_get rfl (by assumption) rfl ?_
          refine x_iload rfl rfl ?_
          refine x_ialdN (j := k) rfl (by assumption) (by omega) (by omega) ?_
          refine x_iload rfl rfl ?_
          refine x_icmp_ne rfl (fun hc => ?_) (fun hc => ?_)
          · refine x_iinc rfl rfl ⟨by omega, by omega⟩ ?_
            refine x_goto rfl ?_
            refine ih (k + 1) (by omega) (fun j hj => ?_)
            rcases Nat.lt_or_ge j k with hjk | hjk
            · exact hb j hjk
            · rw [show j = k by omega]
              exact fun q => hc q.2
          · refine x_const rfl ?_
            refine x_zret rfl (by first | exact Or.inl rfl | exact Or.inr rfl | assumption | omega) ?_
            exact h1 ⟨k, by omega, Classical.not_not.mp ‹¬ ¬ (E k).1 = 0›, Classical.not_not.mp hc⟩
  refine am_wp pJ_hasOpenAdditionTo (Nat.le_of_ble_eq_true rfl) ?_
  refine x_const rfl ?_
  refine x_istore rfl (Nat.le_of_ble_eq_true rfl) ?_
  exact loop op 0 (by omega) (fun j hj => by omega)
/-- one change is taken back -/
theorem c_J_takeBack {k ab : Nat} {c : mv_H} {b : mv_B} {vl : Int} (h : jr μ a E op du) (hk : k < 8) (he : E k = ui c b) (hw : wb b) (hv : vc c b) (hb : bx μ ab (ap c b) vl) (hQ : ∀ μ', bx μ' ab b vl → fr μ μ' ab (ab + 4) → Q none (nn, ss, μ')) : am_Wp mv_P (d + 4) jJ_takeBack [.inr (some a), .inl k, .inr (some ab)] (nn, ss, μ) Q := by
  obtain ⟨h0, h1, h2, h3, h4, h5⟩ := h
  obtain ⟨fs, hob⟩ := hb.ob
  obtain ⟨w1, w2, w3, w4⟩ := hw
  refine am_wp pJ_takeBack (Nat.le_of_ble_eq_true rfl) ?_
  refine x_aload rfl rfl ?_
  refine x_get rfl (by assumption) rfl ?_
  refine x_iload rfl rfl ?_
  refine x_ialdN (j := k) rfl (by assumption) (by omega) (by omega) ?_
  refine x_lsw rfl ?_
  rw [he]
  rcases hv with ⟨c1, c2, c3⟩ | ⟨c1, c2⟩
  · have eu : ui c b = (0, c.2.1, c.2.2.1, 0, 0) := by unfold ui; rw [if_pos c1]
    have ea : ap c b = (b.1 ++ [(c.2.2.1, c.2.2.2.1, c.2.2.2.2)], c.2.2.1 + 1) := by unfold ap; rw [if_pos c1]
    rw [eu]
    show am_Ex mv_P (d + 3) (am_at kJ_takeBack) (32, _, _, _) Q
    refine x_aload rfl rfl ?_
    refine x_aload rfl rfl ?_
    refine x_get rfl (by assumption) rfl ?_
    refine x_iload rfl rfl ?_
    refine x_ialdN (j := k) rfl (by assumption) (by omega) (by omega) ?_
    refine x_callV1 rfl (by assumption) (Nat.le_of_ble_eq_true rfl) ?_
    rw [he, eu]
    rw [ea] at hb
    have efp : fp (b.1 ++ [(c.2.2.1, c.2.2.2.1, c.2.2.2.2)]) c.2.2.1 = b.1.length := by
      refine fp_is (by simp) (by rw [mg_app, if_neg (by omega), if_pos rfl]) (fun j hj => ?_)
      rw [mg_app, if_pos hj, c2]
      have := w4 j hj
      omega
    refine d_B_takeBackAdded hb (by rw [efp]; simp) (fun μ' hb' hf => ?_)
    refine x_goto rfl ?_
    refine x_vret rfl ?_
    refine hQ μ' ?_ hf
    have e2 : ((b.1 ++ [(c.2.2.1, c.2.2.2.1, c.2.2.2.2)]).eraseIdx b.1.length) = b.1 := by
      refine mg_ext (by rw [er_len (by simp)]; simp) (fun j hj => ?_)
      rw [er_len (by simp)] at hj
      simp only [List.length_append, List.length_cons, List.length_nil] at hj
      rw [mg_er, if_pos (by omega), mg_app, if_pos (by omega)]
    simp only [efp] at hb'
    rw [e2, c2] at hb'
    exact hb'
  · have eu1 := fp_at b.1 c.2.2.1 c2
    rcases c1 with c1 | c1
    · have eu : ui c b = (1, c.2.1, c.2.2.1, (mg b.1 (fp b.1 c.2.2.1)).2.1, (mg b.1 (fp b.1 c.2.2.1)).2.2) := by unfold ui; rw [if_neg (by omega), if_pos c1]
      have ea : ap c b = (b.1.eraseIdx (fp b.1 c.2.2.1), b.2) := by unfold ap; rw [if_neg (by omega), if_pos c1]
      rw [eu]
      show am_Ex mv_P (d + 3) (am_at kJ_takeBack) (45, _, _, _) Q
      refine x_aload rfl rfl ?_
      refine x_aload rfl rfl ?_
      refine x_get rfl (by assumption) rfl ?_
      refine x_iload rfl rfl ?_
      refine x_ialdN (j := k) rfl (by assumption) (by omega) (by omega) ?_
      refine x_aload rfl rfl ?_
      refine x_get rfl (by assumption) rfl ?_
      refine x_iload rfl rfl ?_
      refine x_ialdN (j := k) rfl (by assumption) (by omega) (by omega) ?_
      refine x_aload rfl rfl ?_
      refine x_get rfl (by assumption) rfl ?_
      refine x_iload rfl rfl ?_
      refine x_ialdN (j := k) rfl (by assumption) (by omega) (by omega) ?_
      refine x_callV3 rfl (by assumption) (Nat.le_of_ble_eq_true rfl) ?_
      rw [he, eu]
      rw [ea] at hb
      have eu2 : c.2.2.1 = (mg b.1 (fp b.1 c.2.2.1)).1 := eu1.symm
      show am_Wp mv_P (d + 3) jB_insert [.inr (some ab), .inl c.2.2.1, .inl (mg b.1 (fp b.1 c.2.2.1)).2.1, .inl (mg b.1 (fp b.1 c.2.2.1)).2.2] _ _
      generalize fp b.1 c.2.2.1 = i at *
      rw [eu2]
      refine d_B_insert w1 w2 c2 hb (fun μ' hb' hf => ?_)
      refine x_goto rfl ?_
      refine x_vret rfl ?_
      exact hQ μ' hb' hf
    · have eu : ui c b = (2, c.2.1, c.2.2.1, (mg b.1 (fp b.1 c.2.2.1)).2.1, 0) := by unfold ui; rw [if_neg (by omega), if_neg (by omega)]
      have ea : ap c b = (b.1.set (fp b.1 c.2.2.1) ((mg b.1 (fp b.1 c.2.2.1)).1, c.2.2.2.1, (mg b.1 (fp b.1 c.2.2.1)).2.2), b.2) := by unfold ap; rw [if_neg (by omega), if_neg (by omega)]
      rw [eu]
      show am_Ex mv_P (d + 3) (am_at kJ_takeBack) (70, _, _, _) Q
      refine x_aload rfl rfl ?_
      refine x_aload rfl rfl ?_
      refine x_get rfl (by assumption) rfl ?_
      refine x_iload rfl rfl ?_
      refine x_ialdN (j := k) rfl (by assumption) (by omega) (by omega) ?_
      refine x_aload rfl rfl ?_
      refine x_get rfl (by assumption) rfl ?_
      refine x_iload rfl rfl ?_
      refine x_ialdN (j := k) rfl (by assumption) (by omega) (by omega) ?_
      refine x_callV2 rfl (by assumption) (Nat.le_of_ble_eq_true rfl) ?_
      rw [he, eu]
      rw [ea] at hb
      have key : ∀ j, j < b.1.length → (mg (b.1.set (fp b.1 c.2.2.1) ((mg b.1 (fp b.1 c.2.2.1)).1, c.2.2.2.1, (mg b.1 (fp b.1 c.2.2.1)).2.2)) j).1 = (mg b.1 j).1 := by
        intro j hj
        rw [mg_set]
        split
        · next hq => rw [hq.1]
        · rfl
      have efp : fp (b.1.set (fp b.1 c.2.2.1) ((mg b.1 (fp b.1 c.2.2.1)).1, c.2.2.2.1, (mg b.1 (fp b.1 c.2.2.1)).2.2)) c.2.2.1 = fp b.1 c.2.2.1 := fp_cg (by rw [List.length_set]) (fun j hj => key j (by rw [List.length_set] at hj; exact hj)) _
      refine d_B_restoreFlags hb (by rw [efp, List.length_set]; exact c2) (fun μ' hb' hf => ?_)
      refine x_vret rfl ?_
      refine hQ μ' ?_ hf
      simp only [efp] at hb'
      have e2 : (b.1.set (fp b.1 c.2.2.1) ((mg b.1 (fp b.1 c.2.2.1)).1, c.2.2.2.1, (mg b.1 (fp b.1 c.2.2.1)).2.2)).set (fp b.1 c.2.2.1) ((mg (b.1.set (fp b.1 c.2.2.1) ((mg b.1 (fp b.1 c.2.2.1)).1, c.2.2.2.1, (mg b.1 (fp b.1 c.2.2.1)).2.2)) (fp b.1 c.2.2.1)).1, (mg b.1 (fp b.1 c.2.2.1)).2.1, (mg (b.1.set (fp b.1 c.2.2.1) ((mg b.1 (fp b.1 c.2.2.1)).1, c.2.2.2.1, (mg b.1 (fp b.1 c.2.2.1)).2.2)) (fp b.1 c.2.2.1)).2.2) = b.1 := by
        refine mg_ext (by rw [List.length_set, List.length_set]) (fun j hj => ?_)
        rw [List.length_set, List.length_set] at hj
        rw [mg_set, mg_set, mg_set]
        by_cases hj2 : j = fp b.1 c.2.2.1
        · rw [if_pos ⟨hj2, by rw [List.length_set]; exact c2⟩, if_pos ⟨rfl, c2⟩, hj2]
        · rw [if_neg (fun q => hj2 q.1), if_neg (fun q => hj2 q.1)]
      rw [e2] at hb'
      exact hb'
end Jrn
