/-! the reference: does a message fulfil the criterion? -/
def ch (tk : List mv_Q) (lf : mv_Q → Int) : List Int → Nat → Prop
  | [], j => j = tk.length
  | b :: w, j => j < tk.length ∧ b = tv tk lf j ∧ ch tk lf w (ed tk j).1.toNat
theorem ch_le {tk : List mv_Q} {lf : mv_Q → Int} {w : List Int} {j : Nat} (h : ch tk lf w j) : j ≤ tk.length := by
  cases w with
  | nil => exact Nat.le_of_eq h
  | cons b w => exact Nat.le_of_lt h.1
theorem ch_un {tk : List mv_Q} {lf : mv_Q → Int} : ∀ (w w' : List Int) (j : Nat), ch tk lf w j → ch tk lf w' j → w = w' := by
  intro w
  induction w with
  | nil =>
    intro w' j h h'
    cases w' with
    | nil => rfl
    | cons b w' =>
      have h : j = tk.length := h
      have := h'.1
      omega
  | cons b w ih =>
    intro w' j h h'
    cases w' with
    | nil =>
      have h' : j = tk.length := h'
      have := h.1
      omega
    | cons b' w' => rw [h.2.1, h'.2.1, ih w' _ h.2.2 h'.2.2]
theorem ch_len {tk : List mv_Q} {lf : mv_Q → Int} (h14 : tk.length ≤ 14) : ∀ (w : List Int) (j : Nat), ch tk lf w j → w.length + j ≤ tk.length := by
  intro w
  induction w with
  | nil =>
    intro j h
    have h : j = tk.length := h
    rw [List.length_nil]
    omega
  | cons b w ih =>
    intro j h
    have h1 := ih _ h.2.2
    have h2 := ed_in tk h14 h.1
    rw [List.length_cons]
    omega
theorem ch_s {tk : List mv_Q} {lf : mv_Q → Int} (h14 : tk.length ≤ 14) {w : List Int} {j : Nat} (h : ch tk lf w j) (hj : j < tk.length) : ∃ w', ch tk lf w' (j + 1) := by
  cases w with
  | nil =>
    have h : j = tk.length := h
    omega
  | cons b w =>
    have hw := h.2.2
    have hle := ch_le hw
    have hrec := ed_rec tk h14 hj
    have hin := ed_in tk h14 hj
    by_cases h6 : (mg tk j).1 < 6
    · have e : ed tk j = ((j : Int) + 1, 0) := by
        rw [hrec]
        unfold mM
        rw [if_pos h6]
      rw [e] at hw
      exact ⟨w, hw⟩
    · by_cases h6' : (mg tk j).1 = 6
      · have e : (ed tk j).1 = eX (ed tk) tk.length (j + 1) := by
          rw [hrec]
          unfold mM
          rw [if_neg h6, if_pos h6']
        by_cases hj1 : j + 1 < tk.length
        · have e1 : eX (ed tk) tk.length ((j : Int) + 1) = (ed tk (j + 1)).1 := eX_in (k := j + 1) (by omega) hj1
          rw [e, e1] at hw
          exact ⟨tv tk lf (j + 1) :: w, hj1, rfl, hw⟩
        · have e1 : eX (ed tk) tk.length ((j : Int) + 1) = 15 := eX_out (by omega)
          rw [e1] at e
          omega
      · have e : (ed tk j).1 = eX (ed tk) tk.length (eX (ed tk) tk.length (j + 1)) := by
          rw [hrec]
          unfold mM
          rw [if_neg h6, if_neg h6']
        by_cases hj1 : j + 1 < tk.length
        · have e1 : eX (ed tk) tk.length ((j : Int) + 1) = (ed tk (j + 1)).1 := eX_in (k := j + 1) (by omega) hj1
          have hin1 := ed_in tk h14 hj1
          by_cases hE : (ed tk (j + 1)).1 < tk.length
          · have e3 : eX (ed tk) tk.length (ed tk (j + 1)).1 = (ed tk (ed tk (j + 1)).1.toNat).1 := eX_in (by omega) (by omega)
            rw [e, e1, e3] at hw
            exact ⟨tv tk lf (j + 1) :: tv tk lf (ed tk (j + 1)).1.toNat :: w, hj1, rfl, by omega, rfl, hw⟩
          · have e3 : eX (ed tk) tk.length (ed tk (j + 1)).1 = 15 := eX_out (by omega)
            rw [e1, e3] at e
            omega
        · have e1 : eX (ed tk) tk.length ((j : Int) + 1) = 15 := eX_out (by omega)
          have e3 : eX (ed tk) tk.length 15 = 15 := eX_out (by omega)
          rw [e1, e3] at e
          omega
theorem ch_all {tk : List mv_Q} {lf : mv_Q → Int} (h14 : tk.length ≤ 14) (hg : gd tk) : ∀ j, j ≤ tk.length → ∃ w, ch tk lf w j := by
  intro j
  induction j with
  | zero =>
    intro _
    refine ⟨[tv tk lf 0], hg.1, rfl, ?_⟩
    have := hg.2.1
    show (ed tk 0).1.toNat = tk.length
    omega
  | succ j ih =>
    intro hj
    obtain ⟨w, hw⟩ := ih (by omega)
    exact ch_s h14 hw (by omega)
def sI (f : Nat → Int) : List Int → Prop
  | [] => True
  | c :: st => f st.length = c ∧ sI f st
theorem sI_up {f : Nat → Int} {k : Nat} {z : Int} : ∀ st : List Int, sI f st → st.length ≤ k → sI (am_fu f k z) st := by
  intro st
  induction st with
  | nil => intro _ _; trivial
  | cons c st ih =>
    intro h hk
    rw [List.length_cons] at hk
    exact ⟨by rw [am_fu_n (by omega)]; exact h.1, ih h.2 (by omega)⟩
theorem fit01 {z : Int} (h : z = 0 ∨ z = 1) : am_fit 1 (.inl z) = true := by
  rcases h with e | e <;> (rw [e]; rfl)
theorem ts_out {lo x : Int} {ts : List Nat} {d : Nat} (h : ¬ (lo ≤ x ∧ x < lo + ts.length)) : am_ts lo ts d x = d := by
  unfold am_ts
  rw [if_neg h]
section R12
variable {d nn ss : Nat} {μ0 μ μ' : Nat → Option am_C} {Q : Option am_V → am_M → Prop} {g g' : Nat → Nat → Int} {c e f t : Int} {tk : List mv_Q} {B : Nat → mv_B}
theorem c_M_leaf {i s m k : Nat} {n : Int} {v : List mv_V} (h : mR μ0 μ g c e t f) (hb : RB g B) (hK : RK g tk) (hs : s < 4) (hm : g 5 s = m) (hm3 : m < 3) (h12 : (B m).1.length ≤ 12) (hv : RV g s v) (hk : k < v.length) (hn : n = (k : Int) + 1) (hu : fp (B m).1 (vg v k).1 < (B m).1.length) (hi : i < tk.length) (hQ : Q (some (.inl (lfv (mg (B m).1 (fp (B m).1 (vg v k).1)) n (mg tk i)))) (nn, ss, μ)) : am_Wp mv_P (d + 2) jM_leaf [.inr (some 50), .inl i, .inl s, .inl n] (nn, ss, μ) Q := by
  have h14 := hK.1
  have v24 := hv.1.2
  obtain ⟨t1, t2, t3⟩ := hK.2 i hi
  obtain ⟨b1, b2, b3⟩ := hb m hm3
  obtain ⟨q1, q2, q3⟩ := b3 _ hu
  have efp := fp_at _ _ hu
  unfold lfv at hQ
  refine am_wp pM_leaf (Nat.le_of_ble_eq_true rfl) ?_
  refine x_aload rfl rfl ?_
  refine x_get rfl h.o rfl ?_
  refine x_iload rfl rfl ?_
  refine x_rd (j := s) rfl h.a5 (by omega) (by omega) (hm) ?_
  refine x_istore rfl (Nat.le_of_ble_eq_true rfl) ?_
  refine x_aload rfl rfl ?_
  refine x_iload rfl rfl ?_
  refine x_iload rfl rfl ?_
  refine x_callV2 rfl h.o (Nat.le_of_ble_eq_true rfl) ?_
  refine c_M_uidOf h hs hv hk hn ?_
  refine x_istore rfl (Nat.le_of_ble_eq_true rfl) ?_
  refine x_const rfl ?_
  refine x_iload rfl rfl ?_
  refine x_imul rfl ⟨by omega, by omega⟩ ?_
  refine x_const rfl ?_
  refine x_aload rfl rfl ?_
  refine x_iload rfl rfl ?_
  refine x_iload rfl rfl ?_
  refine x_callV2 rfl h.o (Nat.le_of_ble_eq_true rfl) ?_
  refine c_M_place h hb hm3 h12 ?_
  rw [pz_in hu]
  refine x_imul rfl ⟨by omega, by omega⟩ ?_
  refine x_iadd rfl ⟨by omega, by omega⟩ ?_
  refine x_istore rfl (Nat.le_of_ble_eq_true rfl) ?_
  refine x_aload rfl rfl ?_
  refine x_get rfl h.o rfl ?_
  refine x_const rfl ?_
  refine x_iload rfl rfl ?_
  refine x_imul rfl ⟨by omega, by omega⟩ ?_
  refine x_const rfl ?_
  refine x_iadd rfl ⟨by omega, by omega⟩ ?_
  refine x_rd (j := 3 * i + 1) rfl h.a13 (by omega) (by omega) (t2) ?_
  refine x_istore rfl (Nat.le_of_ble_eq_true rfl) ?_
  refine x_aload rfl rfl ?_
  refine x_get rfl h.o rfl ?_
  refine x_const rfl ?_
  refine x_iload rfl rfl ?_
  refine x_imul rfl ⟨by omega, by omega⟩ ?_
  refine x_const rfl ?_
  refine x_iadd rfl ⟨by omega, by omega⟩ ?_
  refine x_rd (j := 3 * i + 2) rfl h.a13 (by omega) (by omega) (t3) ?_
  refine x_istore rfl (Nat.le_of_ble_eq_true rfl) ?_
  refine x_aload rfl rfl ?_
  refine x_get rfl h.o rfl ?_
  refine x_const rfl ?_
  refine x_iload rfl rfl ?_
  refine x_imul rfl ⟨by omega, by omega⟩ ?_
  refine x_rd (j := 3 * i) rfl h.a13 (by omega) (by omega) (t1) ?_
  refine x_tsw rfl ?_
  by_cases o1 : (mg tk i).1 = 1
  · rw [if_pos o1] at hQ
    rw [o1]
    show am_Ex mv_P (d + 1) (am_at kM_leaf) (100, _, _, _) Q
    refine x_aload rfl rfl ?_
    refine x_get rfl h.o rfl ?_
    refine x_iload rfl rfl ?_
    refine x_const rfl ?_
    refine x_iadd rfl ⟨by omega, by omega⟩ ?_
    refine x_rd (j := 36 * m + 3 * fp (B m).1 (vg v k).1 + 1) rfl h.a2 (by omega) (by omega) (q2) ?_
    refine x_iload rfl rfl ?_
    refine x_iand rfl ?_
    refine x_if_eq rfl (fun hc => ?_) (fun hc => ?_)
    · refine x_const rfl ?_
      refine x_zret rfl (by first | exact Or.inl rfl | exact Or.inr rfl | assumption | omega) ?_
      rw [if_pos hc] at hQ
      exact hQ
    · refine x_const rfl ?_
      refine x_goto rfl ?_
      refine x_zret rfl (by first | exact Or.inl rfl | exact Or.inr rfl | assumption | omega) ?_
      rw [if_neg hc] at hQ
      exact hQ
  · rw [if_neg o1] at hQ
    by_cases o2 : (mg tk i).1 = 2
    · rw [if_pos o2] at hQ
      rw [o2]
      show am_Ex mv_P (d + 1) (am_at kM_leaf) (121, _, _, _) Q
      refine x_aload rfl rfl ?_
      refine x_get rfl h.o rfl ?_
      refine x_iload rfl rfl ?_
      refine x_const rfl ?_
      refine x_iadd rfl ⟨by omega, by omega⟩ ?_
      refine x_rd (j := 36 * m + 3 * fp (B m).1 (vg v k).1 + 2) rfl h.a2 (by omega) (by omega) (q3) ?_
      refine x_iload rfl rfl ?_
      refine x_icmp_le rfl (fun hc => ?_) (fun hc => ?_)
      · refine x_const rfl ?_
        refine x_zret rfl (by first | exact Or.inl rfl | exact Or.inr rfl | assumption | omega) ?_
        rw [if_pos hc] at hQ
        exact hQ
      · refine x_const rfl ?_
        refine x_goto rfl ?_
        refine x_zret rfl (by first | exact Or.inl rfl | exact Or.inr rfl | assumption | omega) ?_
        rw [if_neg hc] at hQ
        exact hQ
    · rw [if_neg o2] at hQ
      by_cases o3 : (mg tk i).1 = 3
      · rw [if_pos o3] at hQ
        rw [o3]
        show am_Ex mv_P (d + 1) (am_at kM_leaf) (141, _, _, _) Q
        refine x_aload rfl rfl ?_
        refine x_get rfl h.o rfl ?_
        refine x_iload rfl rfl ?_
        refine x_const rfl ?_
        refine x_iadd rfl ⟨by omega, by omega⟩ ?_
        refine x_rd (j := 36 * m + 3 * fp (B m).1 (vg v k).1 + 2) rfl h.a2 (by omega) (by omega) (q3) ?_
        refine x_iload rfl rfl ?_
        refine x_icmp_ge rfl (fun hc => ?_) (fun hc => ?_)
        · refine x_const rfl ?_
          refine x_zret rfl (by first | exact Or.inl rfl | exact Or.inr rfl | assumption | omega) ?_
          rw [if_pos (by omega)] at hQ
          exact hQ
        · refine x_const rfl ?_
          refine x_goto rfl ?_
          refine x_zret rfl (by first | exact Or.inl rfl | exact Or.inr rfl | assumption | omega) ?_
          rw [if_neg (by omega)] at hQ
          exact hQ
      · rw [if_neg o3] at hQ
        by_cases o4 : (mg tk i).1 = 4
        · rw [if_pos o4] at hQ
          rw [o4]
          show am_Ex mv_P (d + 1) (am_at kM_leaf) (161, _, _, _) Q
          refine x_iload rfl rfl ?_
          refine x_iload rfl rfl ?_
          refine x_iload rfl rfl ?_
          refine x_callS3 rfl (Nat.le_of_ble_eq_true rfl) ?_
          refine c_M_in (fun hx => ?_) (fun hx => ?_)
          · refine x_zret rfl (by first | exact Or.inl rfl | exact Or.inr rfl | assumption | omega) ?_
            rw [if_pos (by omega)] at hQ
            exact hQ
          · refine x_zret rfl (by first | exact Or.inl rfl | exact Or.inr rfl | assumption | omega) ?_
            rw [if_neg (by omega)] at hQ
            exact hQ
        · rw [if_neg o4] at hQ
          by_cases o5 : (mg tk i).1 = 5
          · rw [if_pos o5] at hQ
            rw [o5]
            show am_Ex mv_P (d + 1) (am_at kM_leaf) (171, _, _, _) Q
            refine x_iload rfl rfl ?_
            refine x_iload rfl rfl ?_
            refine x_iload rfl rfl ?_
            refine x_callS3 rfl (Nat.le_of_ble_eq_true rfl) ?_
            refine c_M_in (fun hx => ?_) (fun hx => ?_)
            · refine x_zret rfl (by first | exact Or.inl rfl | exact Or.inr rfl | assumption | omega) ?_
              rw [if_pos hx] at hQ
              exact hQ
            · refine x_zret rfl (by first | exact Or.inl rfl | exact Or.inr rfl | assumption | omega) ?_
              rw [if_neg hx] at hQ
              exact hQ
          · rw [if_neg o5] at hQ
            rw [ts_out (by simp only [List.length_cons, List.length_nil]; omega)]
            refine x_const rfl ?_
            refine x_zret rfl (by first | exact Or.inl rfl | exact Or.inr rfl | assumption | omega) ?_
            exact hQ
theorem c_M_fulfils {s m k : Nat} {n : Int} {v : List mv_V} (h : mR μ0 μ g c e tk.length f) (hb : RB g B) (hK : RK g tk) (ho : ∀ k, k < tk.length → 0 ≤ (mg tk k).1 ∧ (mg tk k).1 ≤ 8) (hg : gd tk) (hs : s < 4) (hm : g 5 s = m) (hm3 : m < 3) (h12 : (B m).1.length ≤ 12) (hv : RV g s v) (hk : k < v.length) (hn : n = (k : Int) + 1) (hu : fp (B m).1 (vg v k).1 < (B m).1.length) (hQ : ∀ μ' g', mR μ0 μ' g' c e tk.length f → (∀ j, j ≠ 15 → g' j = g j) → Q (some (.inl (if tv tk (lfv (mg (B m).1 (fp (B m).1 (vg v k).1)) n) 0 = 0 then 0 else 1))) (nn, ss, μ')) : am_Wp mv_P (d + 3) jM_fulfils [.inr (some 50), .inl s, .inl n] (nn, ss, μ) Q := by
  have h14 := hK.1
  have hx14 := hg.1
  generalize hlf : lfv (mg (B m).1 (fp (B m).1 (vg v k).1)) n = lf at hQ
  have h01 : ∀ q, lf q = 0 ∨ lf q = 1 := by
    intro q
    rw [← hlf]
    exact lfv_01 _ _ q
  have tv01 : ∀ j, j < tk.length → tv tk lf j = 0 ∨ tv tk lf j = 1 := by
    intro j hj
    rw [tv_rec tk lf h14 hj]
    unfold mH
    split
    · exact h01 _
    · repeat' split
      all_goals first | exact Or.inl rfl | exact Or.inr rfl
  have loop : ∀ (t : Nat) (w : List Int) (μ : Nat → Option am_C) (G : Nat → Nat → Int) (x5 x6 x7 : Option am_V), t ≤ tk.length → ch tk lf w t → mR μ0 μ G c e tk.length f → sI (G 15) w → (∀ j, j ≠ 15 → G j = g j) → am_Ex mv_P (d + 2) (am_at kM_fulfils) (10, [some (.inr (some 50)), some (.inl (s : Int)), some (.inl n), some (.inl (w.length : Int)), some (.inl ((t : Int) - 1)), x5, x6, x7], [], nn, ss, μ) Q := by
    intro t
    induction t with
    | zero =>
      intro w μ G x5 x6 x7 ht hw h hsI Go
      cases w with
      | nil =>
        have hw : 0 = tk.length := hw
        omega
      | cons b w =>
        have hw2 := hw.2.2
        have e0 : (ed tk 0).1.toNat = tk.length := by have := hg.2.1; omega
        rw [e0] at hw2
        cases w with
        | cons b' w' =>
          have := hw2.1
          omega
        | nil =>
          have r0 : G 15 0 = tv tk lf 0 := by rw [← hw.2.1]; exact hsI.1
          refine x_iload rfl rfl ?_
          refine x_if_lt rfl (fun hc => ?_) (fun hc => ?_)
          · refine x_aload rfl rfl ?_
            refine x_get rfl h.o rfl ?_
            refine x_const rfl ?_
            refine x_rd (j := 0) rfl h.a15 (by omega) (by omega) (r0) ?_
            have e1 : (if tv tk lf 0 = 0 then (0 : Int) else 1) = tv tk lf 0 := by
              rcases tv01 0 hx14 with q | q
              · rw [if_pos q, q]
              · rw [if_neg (by omega), q]
            refine x_zret rfl (tv01 0 hx14) ?_
            rw [← e1]
            exact hQ μ G h Go
          · exact absurd (by decide) hc
    | succ t ih =>
      intro w μ G x5 x6 x7 ht hw h hsI Go
      obtain ⟨w0, hw0⟩ := ch_all (lf := lf) h14 hg t (by omega)
      have hlt : t < tk.length := by omega
      have hrec := ed_rec tk h14 hlt
      have htv := tv_rec tk lf h14 hlt
      have hwl := ch_len h14 w (t + 1) hw
      have hop := ho t hlt
      have t1 : G 13 (3 * t) = (mg tk t).1 := (congrFun (Go 13 (by decide)) _).trans (hK.2 t hlt).1
      cases w0 with
      | nil =>
        have hw0 : t = tk.length := hw0
        omega
      | cons b w1 =>
        obtain ⟨-, eb, hw1⟩ := id hw0
        have hle := ch_le hw1
        refine x_iload rfl rfl ?_
        refine x_if_lt rfl (fun hc => ?_) (fun hc => ?_)
        · exact absurd hc (by omega)
        · refine x_aload rfl rfl ?_
          refine x_get rfl h.o rfl ?_
          refine x_const rfl ?_
          refine x_iload rfl rfl ?_
          refine x_imul rfl ⟨by omega, by omega⟩ ?_
          refine x_rd (j := 3 * t) rfl h.a13 (by omega) (by omega) (t1) ?_
          refine x_istore rfl (Nat.le_of_ble_eq_true rfl) ?_
          refine x_iload rfl rfl ?_
          refine x_const rfl ?_
          refine x_icmp_ge rfl (fun hc => ?_) (fun hc => ?_)
          · unfold mH at htv
            rw [if_neg (by omega)] at htv
            by_cases h6' : (mg tk t).1 = 6
            · have e : (ed tk t).1 = eX (ed tk) tk.length (t + 1) := by
                rw [hrec]
                unfold mM
                rw [if_neg (by omega), if_pos h6']
              have hin := ed_in tk h14 hlt
              have hj1 : t + 1 < tk.length := by
                by_cases hj1 : t + 1 < tk.length
                · exact hj1
                · have e1 : eX (ed tk) tk.length ((t : Int) + 1) = 15 := eX_out (by omega)
                  rw [e1] at e
                  omega
              have e1 : eX (ed tk) tk.length ((t : Int) + 1) = (ed tk (t + 1)).1 := eX_in (k := t + 1) (by omega) hj1
              cases w with
              | nil =>
                have hw : t + 1 = tk.length := hw
                omega
              | cons x w2 =>
                obtain ⟨-, ex, hw2⟩ := id hw
                have ew : w2 = w1 := ch_un _ _ _ hw2 (by rw [e, e1] at hw1; exact hw1)
                subst ew
                rw [List.length_cons] at hwl
                have rx : G 15 w2.length = x := hsI.1
                rw [if_neg (by omega), if_neg (by omega)] at htv
                unfold hX at htv
                have etn : ((t : Int) + 1).toNat = t + 1 := by omega
                rw [etn, ← ex] at htv
                rw [List.length_cons]
                refine x_iload rfl rfl ?_
                refine x_const rfl ?_
                refine x_icmp_ne rfl (fun hc => ?_) (fun hc => ?_)
                · exact absurd h6' hc
                · have fin : ∀ z : Int, z = b → (z = 0 ∨ z = 1) → am_Ex mv_P (d + 2) (am_at kM_fulfils) (83, [some (.inr (some 50)), some (.inl (s : Int)), some (.inl n), some (.inl ((w2.length + 1 : Nat) : Int)), some (.inl ((t + 1 : Nat) - 1)), some (.inl (mg tk t).1), x6, x7], [.inl z, .inl (((w2.length + 1 : Nat) : Int) - 1), .inr (some 66)], nn, ss, μ) Q := by
                    intro z hz hz1
                    refine x_iastN (j := w2.length) rfl h.a15 (by omega) (by omega) (fit01 hz1) (fun μ e o => ?_)
                    replace h := h.st (j := 15) (Nat.le_of_ble_eq_true rfl) e o
                    clear e o
                    refine x_goto rfl ?_
                    refine x_iinc rfl rfl ⟨by omega, by omega⟩ ?_
                    refine x_goto rfl ?_
                    rw [show ((t + 1 : Nat) : Int) - 1 + -1 = (t : Int) - 1 by omega]
                    refine ih (b :: w2) _ _ _ x6 x7 (by omega) hw0 h ⟨?_, sI_up w2 hsI.2 (Nat.le_refl _)⟩ (fun j hj => by rw [am_fu_n hj]; exact Go j hj)
                    show am_fu (G 15) w2.length z w2.length = b
                    rw [am_fu_s, hz]
                  refine x_aload rfl rfl ?_
                  refine x_get rfl h.o rfl ?_
                  refine x_iload rfl rfl ?_
                  refine x_const rfl ?_
                  refine x_isub rfl ⟨by omega, by omega⟩ ?_
                  refine x_aload rfl rfl ?_
                  refine x_get rfl h.o rfl ?_
                  refine x_iload rfl rfl ?_
                  refine x_const rfl ?_
                  refine x_isub rfl ⟨by omega, by omega⟩ ?_
                  refine x_rd (j := w2.length) rfl h.a15 (by omega) (by omega) (rx) ?_
                  refine x_if_ne rfl (fun hc => ?_) (fun hc => ?_)
                  · refine x_const rfl ?_
                    refine fin 0 ?_ (Or.inl rfl)
                    rw [eb, htv, if_pos]
                    rw [if_pos ⟨by omega, hc⟩]
                  · refine x_const rfl ?_
                    refine x_goto rfl ?_
                    refine fin 1 ?_ (Or.inr rfl)
                    rw [eb, htv, if_neg]
                    rw [if_neg (fun q => q.2 (Classical.not_not.mp hc))]
                    decide
            · have e : (ed tk t).1 = eX (ed tk) tk.length (eX (ed tk) tk.length (t + 1)) := by
                rw [hrec]
                unfold mM
                rw [if_neg (by omega), if_neg h6']
              have hin := ed_in tk h14 hlt
              have e15 : eX (ed tk) tk.length 15 = 15 := eX_out (by omega)
              have hj1 : t + 1 < tk.length := by
                by_cases hj1 : t + 1 < tk.length
                · exact hj1
                · have e1 : eX (ed tk) tk.length ((t : Int) + 1) = 15 := eX_out (by omega)
                  rw [e1, e15] at e
                  omega
              have e1 : eX (ed tk) tk.length ((t : Int) + 1) = (ed tk (t + 1)).1 := eX_in (k := t + 1) (by omega) hj1
              have hin1 := ed_in tk h14 hj1
              have hE : (ed tk (t + 1)).1 < tk.length := by
                by_cases hE : (ed tk (t + 1)).1 < tk.length
                · exact hE
                · have e3 : eX (ed tk) tk.length (ed tk (t + 1)).1 = 15 := eX_out (by omega)
                  rw [e1, e3] at e
                  omega
              have e3 : eX (ed tk) tk.length (ed tk (t + 1)).1 = (ed tk (ed tk (t + 1)).1.toNat).1 := eX_in (by omega) (by omega)
              cases w with
              | nil =>
                have hw : t + 1 = tk.length := hw
                omega
              | cons x w2 =>
                obtain ⟨-, ex, hw2⟩ := id hw
                cases w2 with
                | nil =>
                  have hw2 : (ed tk (t + 1)).1.toNat = tk.length := hw2
                  omega
                | cons y w3 =>
                  obtain ⟨-, ey, hw3⟩ := id hw2
                  have ew : w3 = w1 := ch_un _ _ _ hw3 (by rw [e, e1, e3] at hw1; exact hw1)
                  subst ew
                  rw [List.length_cons, List.length_cons] at hwl
                  have rx : G 15 (w3.length + 1) = x := hsI.1
                  have ry : G 15 w3.length = y := hsI.2.1
                  unfold hX at htv
                  have etn : ((t : Int) + 1).toNat = t + 1 := by omega
                  rw [etn, e1, ← ex, ← ey] at htv
                  have hx1 : (if ((t : Int) + 1 < (tk.length : Int)) ∧ ¬ x = 0 then (1 : Int) else 0) = if x = 0 then 0 else 1 := by
                    by_cases q : x = 0
                    · rw [if_neg (fun z => z.2 q), if_pos q]
                    · rw [if_pos ⟨by omega, q⟩, if_neg q]
                  have hy1 : (if (ed tk (t + 1)).1 < (tk.length : Int) ∧ ¬ y = 0 then (1 : Int) else 0) = if y = 0 then 0 else 1 := by
                    by_cases q : y = 0
                    · rw [if_neg (fun z => z.2 q), if_pos q]
                    · rw [if_pos ⟨by omega, q⟩, if_neg q]
                  rw [hx1, hy1] at htv
                  rw [List.length_cons, List.length_cons]
                  refine x_iload rfl rfl ?_
                  refine x_const rfl ?_
                  refine x_icmp_ne rfl (fun hc => ?_) (fun hc => ?_)
                  · have fin : ∀ z : Int, z = b → (z = 0 ∨ z = 1) → am_Ex mv_P (d + 2) (am_at kM_fulfils) (155, [some (.inr (some 50)), some (.inl (s : Int)), some (.inl n), some (.inl (((w3.length + 1 + 1 : Nat) : Int) + -1)), some (.inl ((t + 1 : Nat) - 1)), some (.inl (mg tk t).1), some (.inl x), some (.inl y)], [.inl z, .inl (((w3.length + 1 + 1 : Nat) : Int) + -1 - 1), .inr (some 66)], nn, ss, μ) Q := by
                      intro z hz hz1
                      refine x_iastN (j := w3.length) rfl h.a15 (by omega) (by omega) (fit01 hz1) (fun μ e o => ?_)
                      replace h := h.st (j := 15) (Nat.le_of_ble_eq_true rfl) e o
                      clear e o
                      refine x_iinc rfl rfl ⟨by omega, by omega⟩ ?_
                      refine x_goto rfl ?_
                      rw [show ((t + 1 : Nat) : Int) - 1 + -1 = (t : Int) - 1 by omega, show ((w3.length + 1 + 1 : Nat) : Int) + -1 = ((b :: w3).length : Int) by rw [List.length_cons]; omega]
                      refine ih (b :: w3) _ _ _ _ _ (by omega) hw0 h ⟨?_, sI_up w3 hsI.2.2 (Nat.le_refl _)⟩ (fun j hj => by rw [am_fu_n hj]; exact Go j hj)
                      show am_fu (G 15) w3.length z w3.length = b
                      rw [am_fu_s, hz]
                    refine x_iinc rfl rfl ⟨by omega, by omega⟩ ?_
                    refine x_aload rfl rfl ?_
                    refine x_get rfl h.o rfl ?_
                    refine x_iload rfl rfl ?_
                    refine x_rd (j := w3.length + 1) rfl h.a15 (by omega) (by omega) (rx) ?_
                    refine x_istore rfl (Nat.le_of_ble_eq_true rfl) ?_
                    refine x_aload rfl rfl ?_
                    refine x_get rfl h.o rfl ?_
                    refine x_iload rfl rfl ?_
                    refine x_const rfl ?_
                    refine x_isub rfl ⟨by omega, by omega⟩ ?_
                    refine x_rd (j := w3.length) rfl h.a15 (by omega) (by omega) (ry) ?_
                    refine x_istore rfl (Nat.le_of_ble_eq_true rfl) ?_
                    refine x_aload rfl rfl ?_
                    refine x_get rfl h.o rfl ?_
                    refine x_iload rfl rfl ?_
                    refine x_const rfl ?_
                    refine x_isub rfl ⟨by omega, by omega⟩ ?_
                    refine x_iload rfl rfl ?_
                    refine x_const rfl ?_
                    refine x_icmp_ne rfl (fun hc => ?_) (fun hc => ?_)
                    · have o8 : (mg tk t).1 = 8 := by omega
                      rw [if_neg hc, if_pos o8] at htv
                      refine x_iload rfl rfl ?_
                      refine x_if_ne rfl (fun hc => ?_) (fun hc => ?_)
                      · refine x_const rfl ?_
                        refine x_goto rfl ?_
                        refine fin 1 ?_ (Or.inr rfl)
                        rw [eb, htv, if_pos]
                        exact Or.inl (by rw [if_neg hc])
                      · rename_i hcx
                        have hx0 := Classical.not_not.mp hc
                        refine x_iload rfl rfl ?_
                        refine x_if_eq rfl (fun hc => ?_) (fun hc => ?_)
                        · refine x_const rfl ?_
                          refine fin 0 ?_ (Or.inl rfl)
                          rw [eb, htv, if_pos hx0, if_pos hc]
                          rfl
                        · refine x_const rfl ?_
                          refine x_goto rfl ?_
                          refine fin 1 ?_ (Or.inr rfl)
                          rw [eb, htv, if_pos]
                          exact Or.inr (by rw [if_neg hc])
                    · have o7 : (mg tk t).1 = 7 := Classical.not_not.mp hc
                      rw [if_pos o7] at htv
                      refine x_iload rfl rfl ?_
                      refine x_if_eq rfl (fun hc => ?_) (fun hc => ?_)
                      · refine x_const rfl ?_
                        refine x_goto rfl ?_
                        refine fin 0 ?_ (Or.inl rfl)
                        rw [eb, htv, if_pos hc, if_neg]
                        exact fun q => absurd q.1 (by decide)
                      · rename_i hcx
                        have hx0 := hc
                        refine x_iload rfl rfl ?_
                        refine x_if_eq rfl (fun hc => ?_) (fun hc => ?_)
                        · refine x_const rfl ?_
                          refine x_goto rfl ?_
                          refine fin 0 ?_ (Or.inl rfl)
                          rw [eb, htv, if_pos hc, if_neg]
                          exact fun q => absurd q.2 (by decide)
                        · refine x_const rfl ?_
                          refine x_goto rfl ?_
                          refine fin 1 ?_ (Or.inr rfl)
                          rw [eb, htv, if_neg hx0, if_neg hc]
                          rfl
                  · exact absurd (Classical.not_not.mp hc) h6'
          · have e : ed tk t = ((t : Int) + 1, 0) := by
              rw [hrec]
              unfold mM
              rw [if_pos (by omega)]
            have ew : w = w1 := ch_un _ _ _ hw (by rw [e] at hw1; exact hw1)
            subst ew
            unfold mH at htv
            rw [if_pos (by omega)] at htv
            refine x_aload rfl rfl ?_
            refine x_get rfl h.o rfl ?_
            refine x_iload rfl rfl ?_
            refine x_aload rfl rfl ?_
            refine x_iload rfl rfl ?_
            refine x_iload rfl rfl ?_
            refine x_iload rfl rfl ?_
            refine x_callV3 rfl h.o (Nat.le_of_ble_eq_true rfl) ?_
            rw [show ((t + 1 : Nat) : Int) - 1 = (t : Int) by omega]
            refine c_M_leaf h (hb.cg (Go 1 (by decide)) (Go 2 (by decide)) (Go 3 (by decide))) (hK.cg (Go 13 (by decide))) hs ((congrFun (Go 5 (by decide)) s).trans hm) hm3 h12 (hv.cg (Go 7 (by decide)) (Go 8 (by decide)) (Go 9 (by decide))) hk hn hu hlt ?_
            rw [hlf]
            refine x_iastN (j := w.length) rfl h.a15 (by omega) (by omega) (fit01 (h01 _)) (fun μ e o => ?_)
            replace h := h.st (j := 15) (Nat.le_of_ble_eq_true rfl) e o
            clear e o
            refine x_iinc rfl rfl ⟨by omega, by omega⟩ ?_
            refine x_goto rfl ?_
            refine x_iinc rfl rfl ⟨by omega, by omega⟩ ?_
            refine x_goto rfl ?_
            rw [show (t : Int) + -1 = (t : Int) - 1 by omega, show (w.length : Int) + 1 = ((b :: w).length : Int) by rw [List.length_cons]; omega]
            refine ih (b :: w) _ _ _ x6 x7 (by omega) hw0 h ⟨?_, sI_up w hsI (Nat.le_refl _)⟩ (fun j hj => by rw [am_fu_n hj]; exact Go j hj)
            show am_fu (G 15) w.length (lf (mg tk t)) w.length = b
            rw [am_fu_s, eb, htv]
  refine am_wp pM_fulfils (Nat.le_of_ble_eq_true rfl) ?_
  refine x_const rfl ?_
  refine x_istore rfl (Nat.le_of_ble_eq_true rfl) ?_
  refine x_aload rfl rfl ?_
  refine x_get rfl h.o rfl ?_
  refine x_const rfl ?_
  refine x_isub rfl ⟨by omega, by omega⟩ ?_
  refine x_istore rfl (Nat.le_of_ble_eq_true rfl) ?_
  exact loop tk.length [] μ g none none none (Nat.le_refl _) rfl h trivial (fun _ _ => rfl)
end R12
