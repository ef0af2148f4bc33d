/-! the reference: note, add, purge -/
section R4
variable {d nn ss : Nat} {μ0 μ : Nat → Option am_C} {Q : Option am_V → am_M → Prop} {g : Nat → Nat → Int} {t f : Int} {lg : List mv_H} {du : Nat}
/-- log and mailboxes -/
def ML (μ0 μ : Nat → Option am_C) (g : Nat → Nat → Int) (s : List mv_H × Nat) (t f : Int) : Prop := mR μ0 μ g s.1.length s.2 t f ∧ RL g s.1 ∧ RB g (rp s.1)
theorem vc_u {c : mv_H} {b : mv_B} (hv : vc c b) (hw : wb b) (hx : b.2 < 100000) : -1 < c.2.2.1 ∧ c.2.2.1 < 100000 := by
  obtain ⟨w1, w2, w3, w4⟩ := hw
  rcases hv with ⟨k1, k2, k3⟩ | ⟨k1, k2⟩
  · omega
  · have e := fp_at b.1 c.2.2.1 k2
    have := w4 _ k2
    omega
set_option maxRecDepth 20000 in
theorem c_M_note {m : Nat} {kd u fl z : Int} (h : ML μ0 μ g (lg, du) t f) (hI : LI lg du) (hl : lg.length < 1599) (hm : m < 3) (hv : vc (kd, m, u, fl, z) (rp lg m)) (hQ : ∀ μ' g', ML μ0 μ' g' (nt (lg, du) (kd, m, u, fl, z)) t f → (∀ j, 3 < j → g' j = g j) → Q none (nn, ss, μ')) : am_Wp mv_P (d + 3) jM_note [.inr (some 50), .inl kd, .inl m, .inl u, .inl fl, .inl z] (nn, ss, μ) Q := by
  obtain ⟨h, hL, hb⟩ := h
  have h : mR μ0 μ g lg.length du t f := h
  have hL : RL g lg := hL
  have hb : RB g (rp lg) := hb
  have hw := hI.wb m
  have hnx := hI.nx m
  obtain ⟨i1, i2, i3, i4⟩ := id hI
  have hu : -1 < u ∧ u < 100000 := vc_u hv hw (by omega)
  refine am_wp pM_note (Nat.le_of_ble_eq_true rfl) ?_
  refine x_const rfl ?_
  refine x_aload rfl rfl ?_
  refine x_get rfl h.o rfl ?_
  refine x_imul rfl ⟨by omega, by omega⟩ ?_
  refine x_istore rfl (Nat.le_of_ble_eq_true rfl) ?_
  refine x_aload rfl rfl ?_
  refine x_get rfl h.o rfl ?_
  refine x_iload rfl rfl ?_
  refine x_iload rfl rfl ?_
  refine x_iastN (j := 5 * lg.length) rfl h.a0 (by omega) (by omega) rfl (fun μ e o => ?_)
  replace h := h.st (j := 0) (Nat.le_of_ble_eq_true rfl) e o
  clear e o
  refine x_aload rfl rfl ?_
  refine x_get rfl h.o rfl ?_
  refine x_iload rfl rfl ?_
  refine x_const rfl ?_
  refine x_iadd rfl ⟨by omega, by omega⟩ ?_
  refine x_iload rfl rfl ?_
  refine x_iastN (j := 5 * lg.length + 1) rfl h.a0 (by omega) (by omega) rfl (fun μ e o => ?_)
  replace h := h.st (j := 0) (Nat.le_of_ble_eq_true rfl) e o
  clear e o
  refine x_aload rfl rfl ?_
  refine x_get rfl h.o rfl ?_
  refine x_iload rfl rfl ?_
  refine x_const rfl ?_
  refine x_iadd rfl ⟨by omega, by omega⟩ ?_
  refine x_iload rfl rfl ?_
  refine x_iastN (j := 5 * lg.length + 2) rfl h.a0 (by omega) (by omega) rfl (fun μ e o => ?_)
  replace h := h.st (j := 0) (Nat.le_of_ble_eq_true rfl) e o
  clear e o
  refine x_aload rfl rfl ?_
  refine x_get rfl h.o rfl ?_
  refine x_iload rfl rfl ?_
  refine x_const rfl ?_
  refine x_iadd rfl ⟨by omega, by omega⟩ ?_
  refine x_iload rfl rfl ?_
  refine x_iastN (j := 5 * lg.length + 3) rfl h.a0 (by omega) (by omega) rfl (fun μ e o => ?_)
  replace h := h.st (j := 0) (Nat.le_of_ble_eq_true rfl) e o
  clear e o
  refine x_aload rfl rfl ?_
  refine x_get rfl h.o rfl ?_
  refine x_iload rfl rfl ?_
  refine x_const rfl ?_
  refine x_iadd rfl ⟨by omega, by omega⟩ ?_
  refine x_iload rfl rfl ?_
  refine x_iastN (j := 5 * lg.length + 4) rfl h.a0 (by omega) (by omega) rfl (fun μ e o => ?_)
  replace h := h.st (j := 0) (Nat.le_of_ble_eq_true rfl) e o
  clear e o
  generalize hg5 : am_fu _ 0 (am_fu _ (5 * lg.length + 4) z) = g5 at h
  have e0 : g5 0 = am_fu (am_fu (am_fu (am_fu (am_fu (g 0) (5 * lg.length) kd) (5 * lg.length + 1) m) (5 * lg.length + 2) u) (5 * lg.length + 3) fl) (5 * lg.length + 4) z := by
    rw [← hg5]
    rfl
  have eo : ∀ j, j ≠ 0 → g5 j = g j := by
    intro j hj
    rw [← hg5, am_fu_n hj, am_fu_n hj, am_fu_n hj, am_fu_n hj, am_fu_n hj]
  have s0 : g5 0 (5 * lg.length) = kd := by rw [e0, am_fu_n (by omega), am_fu_n (by omega), am_fu_n (by omega), am_fu_n (by omega), am_fu_s]
  have s1 : g5 0 (5 * lg.length + 1) = m := by rw [e0, am_fu_n (by omega), am_fu_n (by omega), am_fu_n (by omega), am_fu_s]
  have s2 : g5 0 (5 * lg.length + 2) = u := by rw [e0, am_fu_n (by omega), am_fu_n (by omega), am_fu_s]
  have s3 : g5 0 (5 * lg.length + 3) = fl := by rw [e0, am_fu_n (by omega), am_fu_s]
  have s4 : g5 0 (5 * lg.length + 4) = z := by rw [e0, am_fu_s]
  have so : ∀ j, j < 5 * lg.length → g5 0 j = g 0 j := by
    intro j hj
    rw [e0, am_fu_n (by omega), am_fu_n (by omega), am_fu_n (by omega), am_fu_n (by omega), am_fu_n (by omega)]
  refine x_aload rfl rfl ?_
  refine x_aload rfl rfl ?_
  refine x_get rfl h.o rfl ?_
  refine x_callV1 rfl h.o (Nat.le_of_ble_eq_true rfl) ?_
  refine c_M_apply h (hb.cg (eo 1 (by decide)) (eo 2 (by decide)) (eo 3 (by decide))) (by omega) s0 s1 s2 s3 s4 hm (fun x _ => (hI.wb x).2.1) hu hv (fun μ1 g' h hB' hj' => ?_)
  have q0 := hj' 0 (by omega)
  have hL' : RL g' (lg ++ [(kd, (m : Int), u, fl, z)]) := by
    intro i hi
    rw [List.length_append] at hi
    simp only [List.length_cons, List.length_nil] at hi
    rw [hg_app, q0]
    by_cases hi2 : i < lg.length
    · rw [if_pos hi2, so _ (by omega), so _ (by omega), so _ (by omega), so _ (by omega), so _ (by omega)]
      exact hL i hi2
    · have ei : i = lg.length := by omega
      rw [if_neg hi2, if_pos ei, ei]
      exact ⟨s0, s1, s2, s3, s4⟩
  have fin : ∀ (μ' : Nat → Option am_C) (x : Nat), mR μ0 μ' g' ((lg.length : Int) + 1) x t f → (nt (lg, du) (kd, (m : Int), u, fl, z)).2 = x → Q none (nn, ss, μ') := by
    intro μ' x hR hx
    refine hQ μ' g' ⟨?_, hL', ?_⟩ (fun j hj => by rw [hj' j (by omega), eo j (by omega)])
    · rw [hx]
      show mR μ0 μ' g' ((lg ++ [(kd, (m : Int), u, fl, z)]).length : Nat) x t f
      rw [List.length_append]
      exact hR
    · show RB g' (rp (lg ++ [(kd, (m : Int), u, fl, z)]))
      rw [rp_app]
      exact hB'
  refine x_aload rfl rfl ?_
  refine x_dup rfl ?_
  refine x_get rfl h.o rfl ?_
  refine x_const rfl ?_
  refine x_iadd rfl ⟨by omega, by omega⟩ ?_
  refine x_putG rfl h.o (Nat.le_of_ble_eq_true rfl) rfl (fun μ e o => ?_)
  replace h := h.pt e o
  clear e o
  refine x_aload rfl rfl ?_
  refine x_get rfl h.o rfl ?_
  refine x_aload rfl rfl ?_
  refine x_get rfl h.o rfl ?_
  refine x_isub rfl ⟨by omega, by omega⟩ ?_
  refine x_const rfl ?_
  refine x_icmp_ne rfl (fun hc => ?_) (fun hc => ?_)
  · refine x_vret rfl ?_
    refine fin _ du h ?_
    show (if _ then _ else _) = _
    rw [if_pos]
    show lg.length + 1 - du < 8
    omega
  · refine x_aload rfl rfl ?_
    refine x_aload rfl rfl ?_
    refine x_get rfl h.o rfl ?_
    refine x_putG rfl h.o (Nat.le_of_ble_eq_true rfl) rfl (fun μ e o => ?_)
    replace h := h.pt e o
    clear e o
    refine x_vret rfl ?_
    refine fin _ (lg.length + 1) h ?_
    show (if _ then _ else _) = _
    rw [if_neg]
    show ¬ (lg.length + 1 - du < 8)
    omega
theorem c_M_add {m : Nat} {fl z : Int} (h : ML μ0 μ g (lg, du) t f) (hI : LI lg du) (hl : lg.length < 1599) (hm : m < 3) (h1 : (rp lg m).1.length = 12 → Q (some (.inl (-2))) (nn, ss, μ)) (h0 : ∀ μ' g', (rp lg m).1.length < 12 → ML μ0 μ' g' (nt (lg, du) (1, m, (rp lg m).2, fl, z)) t f → (∀ j, 3 < j → g' j = g j) → Q (some (.inl (rp lg m).2)) (nn, ss, μ')) : am_Wp mv_P (d + 4) jM_add [.inr (some 50), .inl m, .inl fl, .inl z] (nn, ss, μ) Q := by
  have hM := h
  obtain ⟨h, hL, hb⟩ := h
  have h : mR μ0 μ g lg.length du t f := h
  have hb : RB g (rp lg) := hb
  obtain ⟨b1, b2, b3⟩ := hb m hm
  have hw := hI.wb m
  have hnx := hI.nx m
  have hw2 := hw.2.1
  have hw3 := hw.2.2.1
  refine am_wp pM_add (Nat.le_of_ble_eq_true rfl) ?_
  refine x_aload rfl rfl ?_
  refine x_get rfl h.o rfl ?_
  refine x_iload rfl rfl ?_
  refine x_rd (j := m) rfl h.a1 (by omega) (by omega) (b1) ?_
  refine x_const rfl ?_
  refine x_icmp_ne rfl (fun hc => ?_) (fun hc => ?_)
  · refine x_aload rfl rfl ?_
    refine x_const rfl ?_
    refine x_iload rfl rfl ?_
    refine x_aload rfl rfl ?_
    refine x_get rfl h.o rfl ?_
    refine x_iload rfl rfl ?_
    refine x_rd (j := m) rfl h.a3 (by omega) (by omega) (b2) ?_
    refine x_iload rfl rfl ?_
    refine x_iload rfl rfl ?_
    refine x_callV5 rfl h.o (Nat.le_of_ble_eq_true rfl) ?_
    refine c_M_note hM hI hl hm (Or.inl ⟨rfl, rfl, by omega⟩) (fun μ1 g' h' hj => ?_)
    have hM' := h'
    obtain ⟨h, hL', hb'⟩ := h'
    have ex : g' 3 m = (rp lg m).2 + 1 := by
      rw [(hb' m hm).2.1]
      show ((rp (lg ++ [((1 : Int), (m : Int), (rp lg m).2, fl, z)])) m).2 = _
      rw [rp_app]
      show (am_fu (rp lg) m (ap ((1 : Int), (m : Int), (rp lg m).2, fl, z) (rp lg m)) m).2 = _
      rw [am_fu_s]
      rfl
    refine x_aload rfl rfl ?_
    refine x_get rfl h.o rfl ?_
    refine x_iload rfl rfl ?_
    refine x_rd (j := m) rfl h.a3 (by omega) (by omega) (ex) ?_
    refine x_const rfl ?_
    refine x_isub rfl ⟨by omega, by omega⟩ ?_
    refine x_iret rfl ?_
    rw [show (rp lg m).2 + 1 - 1 = (rp lg m).2 by omega]
    exact h0 _ g' (by omega) hM' hj
  · refine x_const rfl ?_
    refine x_iret rfl ?_
    exact h1 (by omega)
theorem c_M_purge {m : Nat} (h : ML μ0 μ g (lg, du) t f) (hI : LI lg du) (hl : lg.length + 12 < 1599) (hm : m < 3) (hQ : ∀ μ' g', ML μ0 μ' g' (pg m (rp lg m).1.length (lg, du) 0 0).1 t f → (∀ j, 3 < j → g' j = g j) → Q (some (.inl (pg m (rp lg m).1.length (lg, du) 0 0).2)) (nn, ss, μ')) : am_Wp mv_P (d + 4) jM_purge [.inr (some 50), .inl m] (nn, ss, μ) Q := by
  have loop : ∀ (r k c lg1 du1 : _) (μ' : Nat → Option am_C) (g' : Nat → Nat → Int), k + r = (rp lg1 m).1.length → c + k + r ≤ 12 → ML μ0 μ' g' (lg1, du1) t f → LI lg1 du1 → lg1.length + r < 1599 → pg m r (lg1, du1) k c = pg m (rp lg m).1.length (lg, du) 0 0 → (∀ j, 3 < j → g' j = g j) → am_Ex mv_P (d + 3) (am_at kM_purge) (4, [some (.inr (some 50)), some (.inl (m : Int)), some (.inl (c : Int)), some (.inl (k : Int))], [], nn, ss, μ') Q := by
    intro r
    induction r with
    | zero =>
      intro k c lg1 du1 μ' g' hk hck hM hI1 hl1 e hj
      obtain ⟨h, hL, hb⟩ := id hM
      obtain ⟨b1, b2, b3⟩ := hb m hm
      have b1 : g' 1 m = ((rp lg1 m).1.length : Int) := b1
      refine x_iload rfl rfl ?_
      refine x_aload rfl rfl ?_
      refine x_get rfl h.o rfl ?_
      refine x_iload rfl rfl ?_
      refine x_rd (j := m) rfl h.a1 (by omega) (by omega) (b1) ?_
      refine x_icmp_ge rfl (fun hc => ?_) (fun hc => ?_)
      · refine x_iload rfl rfl ?_
        refine x_iret rfl ?_
        rw [← e] at hQ
        exact hQ μ' g' hM hj
      · exact absurd hc (by omega)
    | succ r ih =>
      intro k c lg1 du1 μ' g' hk hck hM hI1 hl1 e hj
      have hw1 := hI1.wb m
      have h12 := hw1.2.1
      obtain ⟨h, hL, hb⟩ := id hM
      obtain ⟨b1, b2, b3⟩ := hb m hm
      have b1 : g' 1 m = ((rp lg1 m).1.length : Int) := b1
      have b3 : ∀ k, k < (rp lg1 m).1.length → g' 2 (36 * m + 3 * k) = (mg (rp lg1 m).1 k).1 ∧ g' 2 (36 * m + 3 * k + 1) = (mg (rp lg1 m).1 k).2.1 ∧ g' 2 (36 * m + 3 * k + 2) = (mg (rp lg1 m).1 k).2.2 := b3
      obtain ⟨q1, q2, q3⟩ := b3 k (by omega)
      refine x_iload rfl rfl ?_
      refine x_aload rfl rfl ?_
      refine x_get rfl h.o rfl ?_
      refine x_iload rfl rfl ?_
      refine x_rd (j := m) rfl h.a1 (by omega) (by omega) (b1) ?_
      refine x_icmp_ge rfl (fun hc => ?_) (fun hc => ?_)
      · exact absurd hc (by omega)
      · refine x_aload rfl rfl ?_
        refine x_get rfl h.o rfl ?_
        refine x_const rfl ?_
        refine x_iload rfl rfl ?_
        refine x_imul rfl ⟨by omega, by omega⟩ ?_
        refine x_const rfl ?_
        refine x_iload rfl rfl ?_
        refine x_imul rfl ⟨by omega, by omega⟩ ?_
        refine x_iadd rfl ⟨by omega, by omega⟩ ?_
        refine x_const rfl ?_
        refine x_iadd rfl ⟨by omega, by omega⟩ ?_
        refine x_rd (j := 36 * m + 3 * k + 1) rfl h.a2 (by omega) (by omega) (q2) ?_
        refine x_const rfl ?_
        refine x_iand rfl ?_
        refine x_if_ne rfl (fun hc => ?_) (fun hc => ?_)
        · have e2 : pg m r (nt (lg1, du1) (2, m, (mg (rp lg1 m).1 k).1, 0, 0)) k (c + 1) = pg m (rp lg m).1.length (lg, du) 0 0 := by
            rw [← e]
            show _ = if _ then _ else _
            rw [if_neg hc]
          have efp := fp_mg hw1.1 (show k < (rp lg1 m).1.length by omega)
          have eap : ap ((2 : Int), (m : Int), (mg (rp lg1 m).1 k).1, (0 : Int), (0 : Int)) (rp lg1 m) = ((rp lg1 m).1.eraseIdx k, (rp lg1 m).2) := by
            unfold ap
            rw [if_neg (by simp), if_pos rfl]
            simp only [efp]
          have hvc : vc ((2 : Int), (m : Int), (mg (rp lg1 m).1 k).1, (0 : Int), (0 : Int)) (rp lg1 m) := Or.inr ⟨Or.inl rfl, by simp only [efp]; omega⟩
          refine x_aload rfl rfl ?_
          refine x_const rfl ?_
          refine x_iload rfl rfl ?_
          refine x_aload rfl rfl ?_
          refine x_get rfl h.o rfl ?_
          refine x_const rfl ?_
          refine x_iload rfl rfl ?_
          refine x_imul rfl ⟨by omega, by omega⟩ ?_
          refine x_const rfl ?_
          refine x_iload rfl rfl ?_
          refine x_imul rfl ⟨by omega, by omega⟩ ?_
          refine x_iadd rfl ⟨by omega, by omega⟩ ?_
          refine x_rd (j := 36 * m + 3 * k) rfl h.a2 (by omega) (by omega) (q1) ?_
          refine x_const rfl ?_
          refine x_const rfl ?_
          refine x_callV5 rfl h.o (Nat.le_of_ble_eq_true rfl) ?_
          refine c_M_note hM hI1 (by omega) hm hvc (fun μ1 g1 hM1 hj1 => ?_)
          refine x_iinc rfl rfl ⟨by omega, by omega⟩ ?_
          refine x_goto rfl ?_
          have elen : (rp (lg1 ++ [((2 : Int), (m : Int), (mg (rp lg1 m).1 k).1, (0 : Int), (0 : Int))]) m).1.length = (rp lg1 m).1.length - 1 := by
            rw [rp_app]
            show (am_fu (rp lg1) m (ap ((2 : Int), (m : Int), (mg (rp lg1 m).1 k).1, (0 : Int), (0 : Int)) (rp lg1 m)) m).1.length = _
            rw [am_fu_s, eap]
            exact er_len (by omega)
          refine ih k (c + 1) (nt (lg1, du1) ((2 : Int), (m : Int), (mg (rp lg1 m).1 k).1, (0 : Int), (0 : Int))).1 (nt (lg1, du1) ((2 : Int), (m : Int), (mg (rp lg1 m).1 k).1, (0 : Int), (0 : Int))).2 μ1 g1 (by show k + r = (rp (lg1 ++ [((2 : Int), (m : Int), (mg (rp lg1 m).1 k).1, (0 : Int), (0 : Int))]) m).1.length; rw [elen]; omega) (by omega) hM1 (LI_nt hI1 (by simp only; omega) hvc (by omega)) ?_ e2 (fun j h3 => by rw [hj1 j h3, hj j h3])
          show (lg1 ++ [((2 : Int), (m : Int), (mg (rp lg1 m).1 k).1, (0 : Int), (0 : Int))]).length + r < 1599
          rw [List.length_append]
          simp only [List.length_cons, List.length_nil]
          omega
        · have e2 : pg m r (lg1, du1) (k + 1) c = pg m (rp lg m).1.length (lg, du) 0 0 := by
            rw [← e]
            show _ = if _ then _ else _
            rw [if_pos (Classical.not_not.mp hc)]
          refine x_iinc rfl rfl ⟨by omega, by omega⟩ ?_
          refine x_goto rfl ?_
          exact ih (k + 1) c lg1 du1 μ' g' (by omega) (by omega) hM hI1 (by omega) e2 hj
  refine am_wp pM_purge (Nat.le_of_ble_eq_true rfl) ?_
  refine x_const rfl ?_
  refine x_istore rfl (Nat.le_of_ble_eq_true rfl) ?_
  refine x_const rfl ?_
  refine x_istore rfl (Nat.le_of_ble_eq_true rfl) ?_
  have h12 := (hI.wb m).2.1
  exact loop (rp lg m).1.length 0 0 lg du μ g (by omega) (by omega) h hI (by omega) rfl (fun _ _ => rfl)
end R4
