/-! the log in the class: adding, removing, taking back, finding -/
def nt (s : List mv_H × Nat) (c : mv_H) : List mv_H × Nat := (s.1 ++ [c], if s.1.length + 1 - s.2 < 8 then s.2 else s.1.length + 1)
def jOk (lg : List mv_H) (du : Nat) (E : Nat → mv_H) : Prop := ∀ k, k < lg.length - du → E k = ui (hg lg (du + k)) (rp (lg.take (du + k)) (hg lg (du + k)).2.1.toNat)
def LI (lg : List mv_H) (du : Nat) : Prop := lgOk lg ∧ du ≤ lg.length ∧ lg.length - du < 8 ∧ lg.length < 5000
def VL (μ : Nat → Option am_C) (s : List mv_H × Nat) (vl : Nat → Int) (ses : Nat → mv_S) (tk : List mv_Q) (fd : List Int) : Prop := ∃ E, VX μ (rp s.1) vl ses E (s.1.length - s.2) s.2 tk fd ∧ jOk s.1 s.2 E
theorem am_fu_i {α : Type} {f : Nat → α} {k : Nat} : am_fu f k (f k) = f := by
  funext j
  by_cases h : j = k <;> simp [am_fu, h]
theorem jOk_nt {lg : List mv_H} {du : Nat} {E : Nat → mv_H} {c : mv_H} (h : jOk lg du E) (hd : du ≤ lg.length) : jOk (nt (lg, du) c).1 (nt (lg, du) c).2 (am_fu E (lg.length - du) (ui c (rp lg c.2.1.toNat))) := by
  intro k hk
  unfold nt at hk ⊢
  simp only [List.length_append, List.length_cons, List.length_nil] at hk ⊢
  by_cases h8 : lg.length + 1 - du < 8
  · rw [if_pos h8] at hk ⊢
    by_cases hk2 : k < lg.length - du
    · rw [am_fu_n (by omega), hg_app, if_pos (by omega), List.take_append_of_le_length (by omega)]
      exact h k hk2
    · have ek : k = lg.length - du := by omega
      rw [ek, am_fu_s, hg_app, if_neg (by omega), if_pos (by omega), show du + (lg.length - du) = lg.length by omega, List.take_left]
  · rw [if_neg h8] at hk
    omega
theorem nt_op {lg : List mv_H} {du : Nat} {c : mv_H} (hd : du ≤ lg.length) : (nt (lg, du) c).1.length - (nt (lg, du) c).2 = if lg.length - du + 1 < 8 then lg.length - du + 1 else 0 := by
  unfold nt
  simp only [List.length_append, List.length_cons, List.length_nil]
  by_cases h8 : lg.length + 1 - du < 8
  · rw [if_pos h8, if_pos (by omega)]
    omega
  · rw [if_neg h8, if_neg (by omega)]
    omega
theorem nt_du {lg : List mv_H} {du : Nat} {c : mv_H} (hd : du ≤ lg.length) : (nt (lg, du) c).2 = if lg.length - du + 1 < 8 then du else du + (lg.length - du + 1) := by
  unfold nt
  simp only
  by_cases h8 : lg.length + 1 - du < 8
  · rw [if_pos h8, if_pos (by omega)]
  · rw [if_neg h8, if_neg (by omega)]
    omega
theorem LI_nt {lg : List mv_H} {du : Nat} {c : mv_H} (h : LI lg du) (hm : 0 ≤ c.2.1 ∧ c.2.1 < 3) (hv : vc c (rp lg c.2.1.toNat)) (hl : lg.length + 1 < 5000) : LI (nt (lg, du) c).1 (nt (lg, du) c).2 := by
  obtain ⟨h1, h2, h3, h4⟩ := h
  refine ⟨lgOk_app h1 hm hv, ?_, ?_, ?_⟩
  · rw [nt_du h2]
    unfold nt
    simp only [List.length_append, List.length_cons, List.length_nil]
    split <;> omega
  · rw [nt_op h2]
    split <;> omega
  · unfold nt
    simp only [List.length_append, List.length_cons, List.length_nil]
    exact hl
theorem LI.wb {lg : List mv_H} {du : Nat} (h : LI lg du) (m : Nat) : wb (rp lg m) := by
  have := lg_wb h.1 lg.length (Nat.le_refl _) m
  rw [List.take_length] at this
  exact this
theorem rp_nx {lg : List mv_H} (h : lgOk lg) : ∀ i, i ≤ lg.length → ∀ m, (rp (lg.take i) m).2 ≤ (i : Int) + 1 := by
  intro i
  induction i with
  | zero => intro _ m; rw [List.take_zero, rp_nil]; simp
  | succ i ih =>
    intro hi m
    rw [rp_s (by omega)]
    unfold apS
    by_cases hm : m = (hg lg i).2.1.toNat
    · rw [hm, am_fu_s]
      have h1 := ih (by omega) (hg lg i).2.1.toNat
      have hv := (h i (by omega)).2
      unfold ap
      rcases hv with ⟨k1, k2, k3⟩ | ⟨k1, k2⟩
      · rw [if_pos k1, k2]
        simp only
        omega
      · rw [if_neg (by omega)]
        split <;> (simp only; omega)
    · rw [am_fu_n hm]
      have := ih (by omega) m
      omega
theorem LI.nx {lg : List mv_H} {du : Nat} (h : LI lg du) (m : Nat) : (rp lg m).2 ≤ (lg.length : Int) + 1 := by
  have := rp_nx h.1 lg.length (Nat.le_refl _) m
  rw [List.take_length] at this
  exact this
theorem fp_mg {l : List mv_Q} (h : so l) {k : Nat} (hk : k < l.length) : fp l (mg l k).1 = k := fp_is hk rfl (fun j hj => by have := h j k hj hk; omega)
section V4
variable {d nn ss : Nat} {μ : Nat → Option am_C} {Q : Option am_V → am_M → Prop} {vl : Nat → Int} {ses : Nat → mv_S} {tk : List mv_Q} {fd : List Int} {lg : List mv_H} {du : Nat}
theorem c_V_add {m : Nat} {f z : Int} (h : VL μ (lg, du) vl ses tk fd) (hI : LI lg du) (hm : m < 3) (h1 : (rp lg m).1.length = 12 → Q (some (.inl (-2))) (nn, ss, μ)) (h0 : ∀ μ', (rp lg m).1.length < 12 → VL μ' (nt (lg, du) (1, m, (rp lg m).2, f, z)) vl ses tk fd → fr μ μ' 1 50 → Q (some (.inl (rp lg m).2)) (nn, ss, μ')) : am_Wp mv_P (d + 4) jV_add [.inr (some 1), .inl m, .inl f, .inl z] (nn, ss, μ) Q := by
  obtain ⟨E, hX, hj⟩ := h
  have hX : VX μ (rp lg) vl ses E (lg.length - du) du tk fd := hX
  have hj : jOk lg du E := hj
  have hX' := hX
  obtain ⟨g1, ⟨⟨f0, g5, g6⟩, f1, g2, g3⟩, g7, g4, g8, -⟩ := hX
  unfold voP at g1
  have hb := g7 m hm
  obtain ⟨fs, hob⟩ := hb.ob
  have hw := hI.wb m
  have hnx := hI.nx m
  have hI' := hI
  obtain ⟨i1, i2, i3, i4⟩ := hI
  refine am_wp pV_add (Nat.le_of_ble_eq_true rfl) ?_
  refine x_aload rfl rfl ?_
  refine x_get rfl (by assumption) rfl ?_
  refine x_iload rfl rfl ?_
  refine x_aaldN (j := m) rfl (by assumption) (by omega) (by omega) ?_
  rw [g6 _ hm]
  refine x_astore rfl (Nat.le_of_ble_eq_true rfl) ?_
  refine x_aload rfl rfl ?_
  refine x_callV0 rfl (by assumption) (Nat.le_of_ble_eq_true rfl) ?_
  refine d_B_isFull hb ?_
  by_cases h12 : 12 ≤ (rp lg m).1.length
  · rw [if_pos h12]
    refine x_if_eq rfl (fun hc => ?_) (fun hc => ?_)
    · exact absurd hc (by decide)
    · refine x_const rfl ?_
      refine x_iret rfl ?_
      exact h1 (by have := hw.2.1; omega)
  · rw [if_neg h12]
    refine x_if_eq rfl (fun hc => ?_) (fun hc => ?_)
    · refine x_aload rfl rfl ?_
      refine x_iload rfl rfl ?_
      refine x_iload rfl rfl ?_
      refine x_callV2 rfl (by assumption) (Nat.le_of_ble_eq_true rfl) ?_
      refine d_B_addNew (m : Int) hb hw (by omega) (by omega) (fun μ1 hb1 hf1 => ?_)
      have hX1 := hX'.box hm hb1 hf1
      rw [am_fu_i] at hX1
      have eB : am_fu (rp lg) m (ap ((1 : Int), (m : Int), (rp lg m).2, f, z) (rp lg m)) = rp (lg ++ [((1 : Int), (m : Int), (rp lg m).2, f, z)]) := by
        rw [rp_app]
        rfl
      rw [eB] at hX1
      have hX1' := hX1
      obtain ⟨k1, -, -, -, k5, -⟩ := hX1
      unfold voP at k1
      refine x_istore rfl (Nat.le_of_ble_eq_true rfl) ?_
      refine x_aload rfl rfl ?_
      refine x_get rfl k1 rfl ?_
      refine x_iload rfl rfl ?_
      refine x_iload rfl rfl ?_
      refine x_callV2 rfl k5.1 (Nat.le_of_ble_eq_true rfl) ?_
      refine c_J_noteAdded k5 (by omega) (by omega) (fun μ2 hj2 hf2 => ?_)
      have hX2 := hX1'.jrn hj2 hf2
      refine x_iload rfl rfl ?_
      refine x_iret rfl ?_
      refine h0 μ2 (by omega) ⟨_, ?_, jOk_nt hj i2⟩ ((hf1.wd (by omega) (by omega)).tr (hf2.wd (by omega) (by omega)))
      rw [nt_op i2, nt_du i2]
      exact hX2
    · exact absurd rfl hc
def pg (m : Nat) : Nat → (List mv_H × Nat) → Nat → Nat → (List mv_H × Nat) × Nat
  | 0, s, _, c => (s, c)
  | r + 1, s, k, c => if am_and (mg (rp s.1 m).1 k).2.1 8 = 0 then pg m r s (k + 1) c else pg m r (nt s (2, m, (mg (rp s.1 m).1 k).1, 0, 0)) k (c + 1)
theorem c_V_removeDeleted {m : Nat} (h : VL μ (lg, du) vl ses tk fd) (hI : LI lg du) (hl : lg.length + 12 < 5000) (hm : m < 3) (h0 : ∀ μ', VL μ' (pg m (rp lg m).1.length (lg, du) 0 0).1 vl ses tk fd → LI (pg m (rp lg m).1.length (lg, du) 0 0).1.1 (pg m (rp lg m).1.length (lg, du) 0 0).1.2 → fr μ μ' 1 50 → Q (some (.inl (pg m (rp lg m).1.length (lg, du) 0 0).2)) (nn, ss, μ')) : am_Wp mv_P (d + 4) jV_removeDeleted [.inr (some 1), .inl m] (nn, ss, μ) Q := by
  have loop : ∀ (r k c lg1 du1 : _) (μ' : Nat → Option am_C), k + r = (rp lg1 m).1.length → c + k + r = (rp lg m).1.length → VL μ' (lg1, du1) vl ses tk fd → LI lg1 du1 → lg1.length + r < 5000 → pg m r (lg1, du1) k c = pg m (rp lg m).1.length (lg, du) 0 0 → fr μ μ' 1 50 → am_Ex mv_P (d + 3) (am_at kV_removeDeleted) (18, [some (.inr (some 1)), some (.inl (m : Int)), some (.inr (some (3 + 4 * m))), some (.inl (c : Int)), some (.inl (k : Int)), some (.inl (r : Int))], [], nn, ss, μ') Q := by
    intro r
    induction r with
    | zero =>
      intro k c lg1 du1 μ' hk hck hV hI1 hl1 e hf
      refine x_iload rfl rfl ?_
      refine x_if_le rfl (fun hc => ?_) (fun hc => ?_)
      · refine x_iload rfl rfl ?_
        refine x_iret rfl ?_
        rw [← e] at h0
        exact h0 μ' hV hI1 hf
      · exact absurd hc (by omega)
    | succ r ih =>
      intro k c lg1 du1 μ' hk hck hV hI1 hl1 e hf
      have hw1 := hI1.wb m
      have h12 := hw1.2.1
      have hw0 : (rp lg m).1.length ≤ 12 := (hI.wb m).2.1
      obtain ⟨E, hX, hj⟩ := hV
      have hX : VX μ' (rp lg1) vl ses E (lg1.length - du1) du1 tk fd := hX
      have hj : jOk lg1 du1 E := hj
      have hX' := hX
      obtain ⟨g1, ⟨⟨f0, g5, g6⟩, f1, g2, g3⟩, g7, g4, g8, -⟩ := hX
      unfold voP at g1
      have hb := g7 m hm
      obtain ⟨fs, hob⟩ := hb.ob
      have hI1' := hI1
      obtain ⟨i1, i2, i3, i4⟩ := hI1
      refine x_iload rfl rfl ?_
      refine x_if_le rfl (fun hc => ?_) (fun hc => ?_)
      · exact absurd hc (by omega)
      · refine x_aload rfl rfl ?_
        refine x_iload rfl rfl ?_
        refine x_callV1 rfl (by assumption) (Nat.le_of_ble_eq_true rfl) ?_
        refine d_B_flagsAt hb (by omega) ?_
        refine x_const rfl ?_
        refine x_iand rfl ?_
        refine x_if_eq rfl (fun hc => ?_) (fun hc => ?_)
        · have e2 : pg m r (lg1, du1) (k + 1) c = pg m (rp lg m).1.length (lg, du) 0 0 := by
            rw [← e]
            show _ = if _ then _ else _
            rw [if_pos hc]
          refine x_iinc rfl rfl ⟨by omega, by omega⟩ ?_
          refine x_iinc rfl rfl ⟨by omega, by omega⟩ ?_
          refine x_goto rfl ?_
          rw [show ((r + 1 : Nat) : Int) + -1 = (r : Int) by omega]
          exact ih (k + 1) c lg1 du1 μ' (by omega) (by omega) ⟨E, hX', hj⟩ hI1' (by omega) e2 hf
        · have e2 : pg m r (nt (lg1, du1) (2, m, (mg (rp lg1 m).1 k).1, 0, 0)) k (c + 1) = pg m (rp lg m).1.length (lg, du) 0 0 := by
            rw [← e]
            show _ = if _ then _ else _
            rw [if_neg hc]
          have efp := fp_mg hw1.1 (show k < (rp lg1 m).1.length by omega)
          have eap : ap ((2 : Int), (m : Int), (mg (rp lg1 m).1 k).1, (0 : Int), (0 : Int)) (rp lg1 m) = ((rp lg1 m).1.eraseIdx k, (rp lg1 m).2) := by
            unfold ap
            rw [if_neg (by simp), if_pos rfl]
            simp only [efp]
          have eui : ui ((2 : Int), (m : Int), (mg (rp lg1 m).1 k).1, (0 : Int), (0 : Int)) (rp lg1 m) = ((1 : Int), (m : Int), (mg (rp lg1 m).1 k).1, (mg (rp lg1 m).1 k).2.1, (mg (rp lg1 m).1 k).2.2) := by
            unfold ui
            rw [if_neg (by simp), if_pos rfl]
            simp only [efp]
          have hvc : vc ((2 : Int), (m : Int), (mg (rp lg1 m).1 k).1, (0 : Int), (0 : Int)) (rp lg1 m) := Or.inr ⟨Or.inl rfl, by simp only [efp]; omega⟩
          refine x_aload rfl rfl ?_
          refine x_get rfl (by assumption) rfl ?_
          refine x_iload rfl rfl ?_
          refine x_aload rfl rfl ?_
          refine x_iload rfl rfl ?_
          refine x_callV1 rfl (by assumption) (Nat.le_of_ble_eq_true rfl) ?_
          refine d_B_uidAt hb (by omega) ?_
          refine x_aload rfl rfl ?_
          refine x_iload rfl rfl ?_
          refine x_callV1 rfl (by assumption) (Nat.le_of_ble_eq_true rfl) ?_
          refine d_B_flagsAt hb (by omega) ?_
          refine x_aload rfl rfl ?_
          refine x_iload rfl rfl ?_
          refine x_callV1 rfl (by assumption) (Nat.le_of_ble_eq_true rfl) ?_
          refine d_B_sizeAt hb (by omega) ?_
          refine x_callV4 rfl g8.1 (Nat.le_of_ble_eq_true rfl) ?_
          refine c_J_noteRemoved g8 (by omega) (by omega) (fun μ1 hj1 hf1 => ?_)
          have hX1 := hX'.jrn hj1 hf1
          have hX1' := hX1
          obtain ⟨k1, -, k7, -⟩ := hX1
          have hb1 := k7 m hm
          obtain ⟨fs1, hob1⟩ := hb1.ob
          refine x_aload rfl rfl ?_
          refine x_iload rfl rfl ?_
          refine x_callV1 rfl (by assumption) (Nat.le_of_ble_eq_true rfl) ?_
          refine d_B_removeAt hb1 (by omega) (fun μ2 hb2 hf2 => ?_)
          have hX2 := hX1'.box hm hb2 hf2
          rw [am_fu_i, ← eap] at hX2
          have eB : am_fu (rp lg1) m (ap ((2 : Int), (m : Int), (mg (rp lg1 m).1 k).1, (0 : Int), (0 : Int)) (rp lg1 m)) = rp (lg1 ++ [((2 : Int), (m : Int), (mg (rp lg1 m).1 k).1, (0 : Int), (0 : Int))]) := by
            rw [rp_app]
            rfl
          rw [eB, ← eui] at hX2
          refine x_iinc rfl rfl ⟨by omega, by omega⟩ ?_
          refine x_goto rfl ?_
          refine x_iinc rfl rfl ⟨by omega, by omega⟩ ?_
          refine x_goto rfl ?_
          rw [show ((r + 1 : Nat) : Int) + -1 = (r : Int) by omega]
          have elen : (rp (lg1 ++ [((2 : Int), (m : Int), (mg (rp lg1 m).1 k).1, (0 : Int), (0 : Int))]) m).1.length = (rp lg1 m).1.length - 1 := by
            rw [← eB, am_fu_s, eap]
            exact er_len (by omega)
          refine ih k (c + 1) (nt (lg1, du1) ((2 : Int), (m : Int), (mg (rp lg1 m).1 k).1, (0 : Int), (0 : Int))).1 (nt (lg1, du1) ((2 : Int), (m : Int), (mg (rp lg1 m).1 k).1, (0 : Int), (0 : Int))).2 μ2 (by show k + r = (rp (lg1 ++ [((2 : Int), (m : Int), (mg (rp lg1 m).1 k).1, (0 : Int), (0 : Int))]) m).1.length; rw [elen]; omega) (by omega) ⟨_, ?_, jOk_nt (c := ((2 : Int), (m : Int), (mg (rp lg1 m).1 k).1, (0 : Int), (0 : Int))) hj i2⟩ (LI_nt hI1' (by simp only; omega) hvc (by omega)) ?_ e2 ((hf.tr (hf1.wd (by omega) (by omega))).tr (hf2.wd (by omega) (by omega)))
          · show VX μ2 (rp (nt (lg1, du1) ((2 : Int), (m : Int), (mg (rp lg1 m).1 k).1, (0 : Int), (0 : Int))).1) vl ses _ ((nt (lg1, du1) ((2 : Int), (m : Int), (mg (rp lg1 m).1 k).1, (0 : Int), (0 : Int))).1.length - (nt (lg1, du1) ((2 : Int), (m : Int), (mg (rp lg1 m).1 k).1, (0 : Int), (0 : Int))).2) (nt (lg1, du1) ((2 : Int), (m : Int), (mg (rp lg1 m).1 k).1, (0 : Int), (0 : Int))).2 tk fd
            rw [nt_op i2, nt_du i2]
            exact hX2
          · show (lg1 ++ [((2 : Int), (m : Int), (mg (rp lg1 m).1 k).1, (0 : Int), (0 : Int))]).length + r < 5000
            rw [List.length_append]
            simp only [List.length_cons, List.length_nil]
            omega
  have hV := h
  obtain ⟨E, hX, hj⟩ := h
  have hX : VX μ (rp lg) vl ses E (lg.length - du) du tk fd := hX
  obtain ⟨g1, ⟨⟨f0, g5, g6⟩, f1, g2, g3⟩, g7, g4, g8, -⟩ := hX
  unfold voP at g1
  have hb := g7 m hm
  obtain ⟨fs, hob⟩ := hb.ob
  have hw0 : (rp lg m).1.length ≤ 12 := (hI.wb m).2.1
  refine am_wp pV_removeDeleted (Nat.le_of_ble_eq_true rfl) ?_
  refine x_aload rfl rfl ?_
  refine x_get rfl (by assumption) rfl ?_
  refine x_iload rfl rfl ?_
  refine x_aaldN (j := m) rfl (by assumption) (by omega) (by omega) ?_
  rw [g6 _ hm]
  refine x_astore rfl (Nat.le_of_ble_eq_true rfl) ?_
  refine x_const rfl ?_
  refine x_istore rfl (Nat.le_of_ble_eq_true rfl) ?_
  refine x_const rfl ?_
  refine x_istore rfl (Nat.le_of_ble_eq_true rfl) ?_
  refine x_aload rfl rfl ?_
  refine x_callV0 rfl (by assumption) (Nat.le_of_ble_eq_true rfl) ?_
  refine d_B_messageCount hb ?_
  refine x_istore rfl (Nat.le_of_ble_eq_true rfl) ?_
  exact loop (rp lg m).1.length 0 0 lg du μ (by omega) (by omega) hV hI (by omega) rfl fr.rf
/-- all changes that are not durable are taken back -/
theorem c_J_takeBackAll {B : Nat → mv_B} {E : Nat → mv_H} (h : VX μ (rp lg) vl ses E (lg.length - du) du tk fd) (hj : jOk lg du E) (hI : LI lg du) (hQ : ∀ μ', VX μ' (rp (lg.take du)) vl ses E 0 du tk fd → fr μ μ' 1 50 → Q none (nn, ss, μ')) : am_Wp mv_P (d + 5) jJ_takeBackAll [.inr (some 36), .inr (some 2)] (nn, ss, μ) Q := by
  obtain ⟨i1, i2, i3, i4⟩ := hI
  have loop : ∀ (t : Nat) (μ' : Nat → Option am_C), t ≤ lg.length - du → VX μ' (rp (lg.take (du + t))) vl ses E (lg.length - du) du tk fd → fr μ μ' 1 50 → am_Ex mv_P (d + 4) (am_at kJ_takeBackAll) (7, [some (.inr (some 36)), some (.inr (some 2)), some (.inl ((t : Int) - 1))], [], nn, ss, μ') Q := by
    intro t
    induction t with
    | zero =>
      intro μ' ht hX hf
      have hX' := hX
      obtain ⟨g1, -, -, -, g8, -⟩ := hX
      obtain ⟨q0, q1, q2, q3, q4, q5⟩ := g8
      refine x_iload rfl rfl ?_
      refine x_if_lt rfl (fun hc => ?_) (fun hc => ?_)
      · refine x_aload rfl rfl ?_
        refine x_const rfl ?_
        refine x_putG rfl (by assumption) (Nat.le_of_ble_eq_true rfl) rfl ?_
        intro μ1 n1 o1
        refine x_vret rfl ?_
        have hf1 : fr μ' μ1 36 (36 + 6) := fr.one o1 (by omega) (by omega)
        have hj1 : jr μ1 36 E 0 du := ⟨n1, (o1 _ (by omega)).trans q1, (o1 _ (by omega)).trans q2, (o1 _ (by omega)).trans q3, (o1 _ (by omega)).trans q4, (o1 _ (by omega)).trans q5⟩
        exact hQ μ1 (hX'.jrn hj1 hf1) (hf.tr (hf1.wd (by omega) (by omega)))
      · exact absurd hc (by omega)
    | succ t ih =>
      intro μ' ht hX hf
      have hX' := hX
      obtain ⟨g1, ⟨⟨f0, g5, g6⟩, -⟩, g7, -, g8, -⟩ := hX
      have g8' := g8
      obtain ⟨q0, q1, q2, q3, q4, q5⟩ := g8
      have hE := hj t (by omega)
      have hlt : du + t < lg.length := by omega
      have hok := i1 (du + t) hlt
      have hwb := lg_wb i1 (du + t) (by omega) (hg lg (du + t)).2.1.toNat
      have eB : rp (lg.take (du + (t + 1))) = apS (rp (lg.take (du + t))) (hg lg (du + t)) := rp_s hlt
      have e1 : (E t).2.1 = (((hg lg (du + t)).2.1.toNat : Nat) : Int) := by
        rw [hE]
        have : (ui (hg lg (du + t)) (rp (lg.take (du + t)) (hg lg (du + t)).2.1.toNat)).2.1 = (hg lg (du + t)).2.1 := by
          unfold ui
          split
          · rfl
          · split <;> rfl
        rw [this]
        omega
      have hm3 : (hg lg (du + t)).2.1.toNat < 3 := by omega
      have hb := g7 (hg lg (du + t)).2.1.toNat hm3
      rw [eB] at hb
      unfold apS at hb
      rw [am_fu_s] at hb
      refine x_iload rfl rfl ?_
      refine x_if_lt rfl (fun hc => ?_) (fun hc => ?_)
      · exact absurd hc (by omega)
      · refine x_aload rfl rfl ?_
        refine x_iload rfl rfl ?_
        refine x_aload rfl rfl ?_
        refine x_aload rfl rfl ?_
        refine x_get rfl (by assumption) rfl ?_
        refine x_iload rfl rfl ?_
        refine x_ialdN (j := t) rfl (by assumption) (by omega) (by omega) ?_
        rw [e1]
        refine x_aaldN (j := (hg lg (du + t)).2.1.toNat) rfl (by assumption) (by omega) (by omega) ?_
        rw [g6 _ hm3]
        refine x_callV2 rfl (by assumption) (Nat.le_of_ble_eq_true rfl) ?_
        rw [show ((t + 1 : Nat) : Int) - 1 = (t : Int) by omega]
        refine c_J_takeBack g8' (by omega) hE hwb hok.2 hb (fun μ1 hb1 hf1 => ?_)
        have hX1 := hX'.box hm3 hb1 hf1
        rw [am_fu_i, eB] at hX1
        have e2 : am_fu (apS (rp (lg.take (du + t))) (hg lg (du + t))) (hg lg (du + t)).2.1.toNat (rp (lg.take (du + t)) (hg lg (du + t)).2.1.toNat) = rp (lg.take (du + t)) := by
          unfold apS
          funext j
          by_cases hjm : j = (hg lg (du + t)).2.1.toNat
          · rw [hjm, am_fu_s]
          · rw [am_fu_n hjm, am_fu_n hjm]
        rw [e2] at hX1
        refine x_iinc rfl rfl ⟨by omega, by omega⟩ ?_
        refine x_goto rfl ?_
        exact ih μ1 (by omega) hX1 (hf.tr (hf1.wd (by omega) (by omega)))
  have h' := h
  obtain ⟨g1, -, -, -, g8, -⟩ := h
  obtain ⟨q0, q1, q2, q3, q4, q5⟩ := g8
  refine am_wp pJ_takeBackAll (Nat.le_of_ble_eq_true rfl) ?_
  refine x_aload rfl rfl ?_
  refine x_get rfl (by assumption) rfl ?_
  refine x_const rfl ?_
  refine x_isub rfl ⟨by omega, by omega⟩ ?_
  refine x_istore rfl (Nat.le_of_ble_eq_true rfl) ?_
  exact loop (lg.length - du) μ (Nat.le_refl _) (by rw [show du + (lg.length - du) = lg.length by omega, List.take_length]; exact h') fr.rf
end V4
