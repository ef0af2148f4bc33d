/-! the reference's calls against the model -/
def RK (g : Nat → Nat → Int) (tk : List mv_Q) : Prop := tk.length ≤ 14 ∧ ∀ k, k < tk.length → g 13 (3 * k) = (mg tk k).1 ∧ g 13 (3 * k + 1) = (mg tk k).2.1 ∧ g 13 (3 * k + 2) = (mg tk k).2.2
def RF (g : Nat → Nat → Int) (fd : List Int) : Prop := fd.length ≤ 24 ∧ ∀ k, k < fd.length → g 14 k = fd.getD k 0
def RA (μ0 μ : Nat → Option am_C) (g : Nat → Nat → Int) (S : mv_T) : Prop := ML μ0 μ g S.1 S.2.2.2.1.length S.2.2.2.2.length ∧ (∀ m, m < 3 → g 4 m = S.2.1 m) ∧ (∀ s, s < 4 → RS g s (S.2.2.1 s)) ∧ RK g S.2.2.2.1 ∧ RF g S.2.2.2.2
def RR (μ0 μ : Nat → Option am_C) (S : mv_T) : Prop := ∃ g, RA μ0 μ g S
section R7
variable {d nn ss : Nat} {μ0 μ μ' : Nat → Option am_C} {Q : Option am_V → am_M → Prop} {g g' : Nat → Nat → Int} {S : mv_T}
theorem RK.cg {tk : List mv_Q} (h : RK g tk) (h1 : g' 13 = g 13) : RK g' tk := by
  unfold RK
  rw [h1]
  exact h
theorem RF.cg {fd : List Int} (h : RF g fd) (h1 : g' 14 = g 14) : RF g' fd := by
  unfold RF
  rw [h1]
  exact h
theorem RA.lg {x : List mv_H × Nat} (h : RA μ0 μ g S) (hM : ML μ0 μ' g' x S.2.2.2.1.length S.2.2.2.2.length) (Go : ∀ j, 3 < j → g' j = g j) : RA μ0 μ' g' (x, S.2) := by
  obtain ⟨h1, h2, h3, h4, h5⟩ := h
  exact ⟨hM, fun m hm => by rw [Go 4 (by omega)]; exact h2 m hm, fun s hs => (h3 s hs).cg (fun j h1 h2 => Go j (by omega)), h4.cg (Go 13 (by omega)), h5.cg (Go 14 (by omega))⟩
theorem RA.se {s : Nat} {x : mv_S} (h : RA μ0 μ g S) (hR : mR μ0 μ' g' S.1.1.length S.1.2 S.2.2.2.1.length S.2.2.2.2.length) (hF : sF g g' s) (hx : RS g' s x) : RA μ0 μ' g' (setS S s x) := by
  obtain ⟨⟨h0, hL, hB⟩, h2, h3, h4, h5⟩ := h
  refine ⟨⟨hR, hL.cg (hF.o (by omega)), hB.cg (hF.o (by omega)) (hF.o (by omega)) (hF.o (by omega))⟩, fun m hm => by rw [hF.o (by omega)]; exact h2 m hm, fun j hj => ?_, h4.cg (hF.o (by omega)), h5.cg (hF.o (by omega))⟩
  show RS g' j (am_fu S.2.2.1 s x j)
  by_cases hjs : j = s
  · rw [hjs, am_fu_s]
    exact hx
  · rw [am_fu_n hjs]
    exact (h3 j hj).fr hF hjs
theorem RA.upd {s m : Nat} {rm : Int} (h : RA μ0 μ g S) (hI : LI S.1.1 S.1.2) (hs : s < 4) (hm : (S.2.2.1 s).1 = (m : Int)) (hm3 : m < 3) (hQ : ∀ μ' g', RA μ0 μ' g' (updS S s rm) → Q none (nn, ss, μ')) : am_Wp mv_P (d + 4) jM_update [.inr (some 50), .inl s, .inl rm] (nn, ss, μ) Q := by
  have hA := h
  obtain ⟨⟨h0, hL, hB⟩, h2, h3, h4, h5⟩ := h
  obtain ⟨q1, q2, q3, q4⟩ := h3 s hs
  obtain ⟨k1, k2, k3, k4, k5⟩ := q4 (by omega)
  refine c_M_update h0 hB hs (by rw [q1, hm]) hm3 (hI.wb m).2.1 k4 k3 (fun μ1 g1 h hv1 hh1 hn1 Go1 hF1 => ?_)
  refine hQ _ g1 (hA.se h hF1 ⟨?_, q2, q3, fun _ => ⟨?_, k2, ?_, ?_, ?_⟩⟩)
  · rw [Go1 5 (by omega)]
    exact q1
  · rw [Go1 6 (by omega)]
    exact k1
  · have eb : bxs S s = rp S.1.1 m := by
      unfold bxs
      rw [hm]
      rfl
    rw [eb]
    exact hh1
  · have eb : bxs S s = rp S.1.1 m := by
      unfold bxs
      rw [hm]
      rfl
    rw [eb]
    exact hv1
  · have eb : bxs S s = rp S.1.1 m := by
      unfold bxs
      rw [hm]
      rfl
    rw [eb]
    exact hn1
theorem m_append {m f z : Int} (h : RR μ0 μ S) (hI : LI S.1.1 S.1.2) (hl : S.1.1.length < 1500) (hQ : ∀ μ', RR μ0 μ' (sp_append S m f z).2 → Q (some (.inl (sp_append S m f z).1)) (nn, ss, μ')) : am_Wp mv_P (d + 5) jM_append [.inr (some 50), .inl m, .inl f, .inl z] (nn, ss, μ) Q := by
  obtain ⟨g, hA⟩ := h
  obtain ⟨⟨h, hL, hB⟩, h2, h3, h4, h5⟩ := id hA
  unfold sp_append at hQ
  have bad : ¬ ((0 ≤ m ∧ m < 3) ∧ (0 ≤ f ∧ f ≤ 31) ∧ 1 ≤ z ∧ z ≤ 999) → am_Ex mv_P (d + 4) (am_at kM_append) (30, [some (.inr (some 50)), some (.inl m), some (.inl f), some (.inl z)], [], nn, ss, μ) Q := by
    intro hb
    rw [if_neg hb] at hQ
    refine x_const rfl ?_
    refine x_iret rfl ?_
    exact hQ μ ⟨g, hA⟩
  refine am_wp pM_append (Nat.le_of_ble_eq_true rfl) ?_
  refine x_iload rfl rfl ?_
  refine x_const rfl ?_
  refine x_const rfl ?_
  refine x_callS3 rfl (Nat.le_of_ble_eq_true rfl) ?_
  refine c_M_in (fun hx => ?_) (fun hx => ?_)
  · refine x_if_eq rfl (fun hc => ?_) (fun hc => ?_)
    · exact absurd hc (by decide)
    · refine x_iload rfl rfl ?_
      refine x_const rfl ?_
      refine x_const rfl ?_
      refine x_callS3 rfl (Nat.le_of_ble_eq_true rfl) ?_
      refine c_M_in (fun hy => ?_) (fun hy => ?_)
      · refine x_if_eq rfl (fun hc => ?_) (fun hc => ?_)
        · exact absurd hc (by decide)
        · refine x_iload rfl rfl ?_
          refine x_const rfl ?_
          refine x_const rfl ?_
          refine x_callS3 rfl (Nat.le_of_ble_eq_true rfl) ?_
          refine c_M_in (fun hz => ?_) (fun hz => ?_)
          · refine x_if_ne rfl (fun hc => ?_) (fun hc => ?_)
            · refine x_aload rfl rfl ?_
              refine x_iload rfl rfl ?_
              refine x_iload rfl rfl ?_
              refine x_iload rfl rfl ?_
              refine x_callV3 rfl h.o (Nat.le_of_ble_eq_true rfl) ?_
              rw [if_pos ⟨by omega, hy, hz⟩] at hQ
              unfold sAdd at hQ
              rw [show m = ((m.toNat : Nat) : Int) by omega]
              refine c_M_add (lg := S.1.1) (du := S.1.2) hA.1 hI (by omega) (by omega) (fun h12 => ?_) (fun μ1 g1 h12 hM Go => ?_)
              · refine x_iret rfl ?_
                rw [if_pos h12] at hQ
                exact hQ μ ⟨g, hA⟩
              · refine x_iret rfl ?_
                rw [if_neg (by omega)] at hQ
                exact hQ μ1 ⟨g1, hA.lg hM Go⟩
            · exact absurd (by decide) hc
          · refine x_if_ne rfl (fun hc => ?_) (fun hc => ?_)
            · exact absurd rfl hc
            · exact bad (by omega)
      · refine x_if_eq rfl (fun hc => ?_) (fun hc => ?_)
        · exact bad (by omega)
        · exact absurd rfl hc
  · refine x_if_eq rfl (fun hc => ?_) (fun hc => ?_)
    · exact bad (by omega)
    · exact absurd rfl hc
theorem m_select {s m r : Int} (hr : r = 0 ∨ r = 1) (h : RR μ0 μ S) (hI : LI S.1.1 S.1.2) (hQ : ∀ μ', RR μ0 μ' (sp_select S s m r).2 → Q (some (.inl (sp_select S s m r).1)) (nn, ss, μ')) : am_Wp mv_P (d + 2) jM_select [.inr (some 50), .inl s, .inl m, .inl r] (nn, ss, μ) Q := by
  obtain ⟨g, hA⟩ := h
  obtain ⟨⟨h, hL, hB⟩, h2, h3, h4, h5⟩ := id hA
  unfold sp_select at hQ
  have bad : ¬ ((0 ≤ s ∧ s < 4) ∧ 0 ≤ m ∧ m < 3) → am_Ex mv_P (d + 1) (am_at kM_select) (18, [some (.inr (some 50)), some (.inl s), some (.inl m), some (.inl r)], [], nn, ss, μ) Q := by
    intro hb
    rw [if_neg hb] at hQ
    refine x_const rfl ?_
    refine x_iret rfl ?_
    exact hQ μ ⟨g, hA⟩
  have fit : am_fit 1 (.inl r) = true := by
    rcases hr with e | e <;> (rw [e]; rfl)
  refine am_wp pM_select (Nat.le_of_ble_eq_true rfl) ?_
  refine x_iload rfl rfl ?_
  refine x_const rfl ?_
  refine x_const rfl ?_
  refine x_callS3 rfl (Nat.le_of_ble_eq_true rfl) ?_
  refine c_M_in (fun hx => ?_) (fun hx => ?_)
  · refine x_if_eq rfl (fun hc => ?_) (fun hc => ?_)
    · exact absurd hc (by decide)
    · refine x_iload rfl rfl ?_
      refine x_const rfl ?_
      refine x_const rfl ?_
      refine x_callS3 rfl (Nat.le_of_ble_eq_true rfl) ?_
      refine c_M_in (fun hy => ?_) (fun hy => ?_)
      · refine x_if_ne rfl (fun hc => ?_) (fun hc => ?_)
        · rw [if_pos ⟨by omega, by omega⟩] at hQ
          refine x_aload rfl rfl ?_
          refine x_get rfl h.o rfl ?_
          refine x_iload rfl rfl ?_
          refine x_iload rfl rfl ?_
          refine x_iastN (j := s.toNat) rfl h.a5 (by omega) (by omega) rfl (fun μ e o => ?_)
          replace h := h.st (j := 5) (Nat.le_of_ble_eq_true rfl) e o
          clear e o
          refine x_aload rfl rfl ?_
          refine x_get rfl h.o rfl ?_
          refine x_iload rfl rfl ?_
          refine x_iload rfl rfl ?_
          refine x_iastN (j := s.toNat) rfl h.a6 (by omega) (by omega) fit (fun μ e o => ?_)
          replace h := h.st (j := 6) (Nat.le_of_ble_eq_true rfl) e o
          clear e o
          refine x_aload rfl rfl ?_
          refine x_get rfl h.o rfl ?_
          refine x_iload rfl rfl ?_
          refine x_const rfl ?_
          refine x_iastN (j := s.toNat) rfl h.a7 (by omega) (by omega) rfl (fun μ e o => ?_)
          replace h := h.st (j := 7) (Nat.le_of_ble_eq_true rfl) e o
          clear e o
          refine x_aload rfl rfl ?_
          refine x_get rfl h.o rfl ?_
          refine x_iload rfl rfl ?_
          refine x_const rfl ?_
          refine x_iastN (j := s.toNat) rfl h.a10 (by omega) (by omega) rfl (fun μ e o => ?_)
          replace h := h.st (j := 10) (Nat.le_of_ble_eq_true rfl) e o
          clear e o
          refine x_aload rfl rfl ?_
          refine x_get rfl h.o rfl ?_
          refine x_iload rfl rfl ?_
          refine x_const rfl ?_
          refine x_iastN (j := s.toNat) rfl h.a11 (by omega) (by omega) rfl (fun μ e o => ?_)
          replace h := h.st (j := 11) (Nat.le_of_ble_eq_true rfl) e o
          clear e o
          generalize hG : am_fu _ 11 (am_fu _ s.toNat (0 : Int)) = G at h
          have G5 : G 5 s.toNat = ((m.toNat : Nat) : Int) := by
            rw [← hG]
            show am_fu (g 5) s.toNat m s.toNat = _
            rw [am_fu_s]
            omega
          have G6 : G 6 s.toNat = r := by
            rw [← hG]
            show am_fu (g 6) s.toNat r s.toNat = _
            rw [am_fu_s]
          have G7 : G 7 s.toNat = 0 := by
            rw [← hG]
            show am_fu (g 7) s.toNat 0 s.toNat = _
            rw [am_fu_s]
          have G10 : G 10 s.toNat = 0 := by
            rw [← hG]
            show am_fu (g 10) s.toNat 0 s.toNat = _
            rw [am_fu_s]
          have G11 : G 11 s.toNat = 0 := by
            rw [← hG]
            show am_fu (g 11) s.toNat 0 s.toNat = _
            rw [am_fu_s]
          have hF : sF g G s.toNat := by
            rw [← hG]
            exact ((((sF.rf.st (by omega) (pt_s (by decide))).st (by omega) (pt_s (by decide))).st (by omega) (pt_s (by decide))).st (by omega) (pt_s (by decide))).st (by omega) (pt_s (by decide))
          refine x_aload rfl rfl ?_
          refine x_iload rfl rfl ?_
          refine x_callV1 rfl h.o (Nat.le_of_ble_eq_true rfl) ?_
          rw [show s = ((s.toNat : Nat) : Int) by omega]
          refine c_M_gather (v := []) (hi := 0) h (hB.cg (hF.o (by omega)) (hF.o (by omega)) (hF.o (by omega))) (by omega) G5 (by omega) (hI.wb m.toNat).2.1 ⟨⟨G7, Nat.zero_le _⟩, fun k hk => absurd hk (Nat.not_lt_zero _)⟩ G10 (fun μ1 g1 h1 hv1 hh1 Go1 hF1 => ?_)
          refine x_iret rfl ?_
          rw [show ((ga (rp S.1.1 m.toNat).1 ([], 0)).1.length : Int) - (([] : List mv_V).length : Int) = ((ga (rp S.1.1 m.toNat).1 ([], 0)).1.length : Int) by simp]
          refine hQ μ1 ⟨g1, hA.se h1 (hF.tr hF1) ⟨?_, by simp only; omega, by simp only; omega, fun _ => ⟨?_, hr, hh1, hv1, ?_⟩⟩⟩
          · rw [Go1 5 (by decide) (by decide) (by decide) (by decide), G5]
            simp only
            omega
          · rw [Go1 6 (by decide) (by decide) (by decide) (by decide)]
            exact G6
          · refine ⟨⟨?_, Nat.zero_le _⟩, fun k hk => absurd hk (Nat.not_lt_zero _)⟩
            rw [Go1 11 (by decide) (by decide) (by decide) (by decide)]
            exact G11
        · exact absurd (by decide) hc
      · refine x_if_ne rfl (fun hc => ?_) (fun hc => ?_)
        · exact absurd rfl hc
        · exact bad (by omega)
  · refine x_if_eq rfl (fun hc => ?_) (fun hc => ?_)
    · exact bad (by omega)
    · exact absurd rfl hc
theorem m_lv {s : Nat} {μ : Nat → Option am_C} {g : Nat → Nat → Int} (h : RA μ0 μ g S) (hR : mR μ0 μ' (am_fu g 5 (am_fu (g 5) s (-1))) S.1.1.length S.1.2 S.2.2.2.1.length S.2.2.2.2.length) : RA μ0 μ' (am_fu g 5 (am_fu (g 5) s (-1))) (setS S s (lvS (S.2.2.1 s))) := by
  refine h.se hR (sF.rf.st (by omega) (pt_s (by decide))) ⟨?_, by unfold lvS; simp only; omega, by unfold lvS; simp only; omega, fun h0 => ?_⟩
  · show am_fu (g 5) s (-1) s = -1
    rw [am_fu_s]
  · have h0 : (0 : Int) ≤ -1 := h0
    exact absurd h0 (by decide)
theorem m_close {s : Int} (h : RR μ0 μ S) (hI : LI S.1.1 S.1.2) (hl : S.1.1.length < 1500) (hQ : ∀ μ', RR μ0 μ' (sp_close S s).2 → Q (some (.inl (sp_close S s).1)) (nn, ss, μ')) : am_Wp mv_P (d + 5) jM_close [.inr (some 50), .inl s] (nn, ss, μ) Q := by
  obtain ⟨g, hA⟩ := h
  obtain ⟨⟨h, hL, hB⟩, h2, h3, h4, h5⟩ := id hA
  unfold sp_close at hQ
  refine am_wp pM_close (Nat.le_of_ble_eq_true rfl) ?_
  refine x_aload rfl rfl ?_
  refine x_iload rfl rfl ?_
  refine x_callV1 rfl h.o (Nat.le_of_ble_eq_true rfl) ?_
  refine c_M_none h h3 (fun hx => ?_) (fun hx => ?_)
  · rw [if_neg hx] at hQ
    refine x_if_eq rfl (fun hc => ?_) (fun hc => ?_)
    · exact absurd hc (by decide)
    · refine x_const rfl ?_
      refine x_iret rfl ?_
      exact hQ μ ⟨g, hA⟩
  · obtain ⟨e1, e2, e3, e4, e5, e6, e7, e8, e9, e10⟩ := hx.rs h3
    rw [if_pos hx] at hQ
    refine x_if_eq rfl (fun hc => ?_) (fun hc => ?_)
    · refine x_aload rfl rfl ?_
      refine x_get rfl h.o rfl ?_
      refine x_iload rfl rfl ?_
      refine x_rd (j := s.toNat) rfl h.a6 (by omega) (by omega) (e6) ?_
      refine x_if_eq rfl (fun hc => ?_) (fun hc => ?_)
      · rw [if_pos hc] at hQ
        refine x_aload rfl rfl ?_
        refine x_aload rfl rfl ?_
        refine x_get rfl h.o rfl ?_
        refine x_iload rfl rfl ?_
        refine x_rd (j := s.toNat) rfl h.a5 (by omega) (by omega) (e5) ?_
        refine x_callV1 rfl h.o (Nat.le_of_ble_eq_true rfl) ?_
        refine c_M_purge (lg := S.1.1) (du := S.1.2) hA.1 hI (by omega) e4 (fun μ1 g1 hM Go => ?_)
        have hA1 : RA μ0 μ1 g1 ((pgS S (S.2.2.1 s.toNat).1.toNat).1, S.2) := hA.lg hM Go
        obtain ⟨⟨h, -⟩, -⟩ := id hA1
        refine x_istore rfl (Nat.le_of_ble_eq_true rfl) ?_
        refine x_aload rfl rfl ?_
        refine x_get rfl h.o rfl ?_
        refine x_iload rfl rfl ?_
        refine x_const rfl ?_
        refine x_iastN (j := s.toNat) rfl h.a5 (by omega) (by omega) rfl (fun μ e o => ?_)
        replace h := h.st (j := 5) (Nat.le_of_ble_eq_true rfl) e o
        clear e o
        refine x_iload rfl rfl ?_
        refine x_iret rfl ?_
        exact hQ _ ⟨_, m_lv hA1 h⟩
      · rw [if_neg hc] at hQ
        refine x_const rfl ?_
        refine x_goto rfl ?_
        refine x_istore rfl (Nat.le_of_ble_eq_true rfl) ?_
        refine x_aload rfl rfl ?_
        refine x_get rfl h.o rfl ?_
        refine x_iload rfl rfl ?_
        refine x_const rfl ?_
        refine x_iastN (j := s.toNat) rfl h.a5 (by omega) (by omega) rfl (fun μ e o => ?_)
        replace h := h.st (j := 5) (Nat.le_of_ble_eq_true rfl) e o
        clear e o
        refine x_iload rfl rfl ?_
        refine x_iret rfl ?_
        exact hQ _ ⟨_, m_lv hA h⟩
    · exact absurd rfl hc
theorem m_check {s : Int} (h : RR μ0 μ S) (hI : LI S.1.1 S.1.2) (hQ : ∀ μ', RR μ0 μ' (sp_check S s).2 → Q (some (.inl (sp_check S s).1)) (nn, ss, μ')) : am_Wp mv_P (d + 5) jM_check [.inr (some 50), .inl s] (nn, ss, μ) Q := by
  obtain ⟨g, hA⟩ := h
  obtain ⟨⟨h, hL, hB⟩, h2, h3, h4, h5⟩ := id hA
  unfold sp_check at hQ
  refine am_wp pM_check (Nat.le_of_ble_eq_true rfl) ?_
  refine x_aload rfl rfl ?_
  refine x_iload rfl rfl ?_
  refine x_callV1 rfl h.o (Nat.le_of_ble_eq_true rfl) ?_
  refine c_M_none h h3 (fun hx => ?_) (fun hx => ?_)
  · rw [if_neg hx] at hQ
    refine x_if_eq rfl (fun hc => ?_) (fun hc => ?_)
    · exact absurd hc (by decide)
    · refine x_const rfl ?_
      refine x_iret rfl ?_
      exact hQ μ ⟨g, hA⟩
  · obtain ⟨e1, e2, e3, e4, e5, e6, e7, e8, e9, e10⟩ := hx.rs h3
    rw [if_pos hx] at hQ
    refine x_if_eq rfl (fun hc => ?_) (fun hc => ?_)
    · refine x_aload rfl rfl ?_
      refine x_iload rfl rfl ?_
      refine x_const rfl ?_
      refine x_callV2 rfl h.o (Nat.le_of_ble_eq_true rfl) ?_
      rw [e2]
      refine hA.upd hI e1 e3 e4 (fun μ1 g1 hA1 => ?_)
      obtain ⟨⟨h, -⟩, -, h3', -⟩ := id hA1
      obtain ⟨q1, q2, q3, q4⟩ := h3' s.toNat e1
      have ex : (updS S s.toNat 1).2.2.1 s.toNat = upS (S.2.2.1 s.toNat) (bxs S s.toNat) 1 := vws_fu
      rw [ex] at q4
      have q5 := q4 (by show 0 ≤ (S.2.2.1 s.toNat).1; omega)
      refine x_aload rfl rfl ?_
      refine x_get rfl h.o rfl ?_
      refine x_iload rfl rfl ?_
      refine x_rd (j := s.toNat) rfl h.a11 (by omega) (by omega) (q5.2.2.2.2.1.1) ?_
      refine x_iret rfl ?_
      exact hQ μ1 ⟨g1, hA1⟩
    · exact absurd rfl hc
theorem m_fetch {s n : Int} (h : RR μ0 μ S) (hI : LI S.1.1 S.1.2) (hQ : ∀ μ', RR μ0 μ' (sp_fetch S s n).2 → Q (some (.inl (sp_fetch S s n).1)) (nn, ss, μ')) : am_Wp mv_P (d + 4) jM_fetch [.inr (some 50), .inl s, .inl n] (nn, ss, μ) Q := by
  obtain ⟨g, hA⟩ := h
  obtain ⟨⟨h, hL, hB⟩, h2, h3, h4, h5⟩ := id hA
  unfold sp_fetch bxs vws at hQ
  refine am_wp pM_fetch (Nat.le_of_ble_eq_true rfl) ?_
  refine x_aload rfl rfl ?_
  refine x_iload rfl rfl ?_
  refine x_iload rfl rfl ?_
  refine x_callV2 rfl h.o (Nat.le_of_ble_eq_true rfl) ?_
  refine c_M_bad h h3 (fun hx => ?_) (fun hx => ?_)
  · rw [if_neg hx] at hQ
    refine x_if_eq rfl (fun hc => ?_) (fun hc => ?_)
    · exact absurd hc (by decide)
    · refine x_const rfl ?_
      refine x_iret rfl ?_
      exact hQ μ ⟨g, hA⟩
  · obtain ⟨e1, e2, e3, e4, e5, e6, e7, e8, e9, e10⟩ := hx.1.rs h3
    have hn := hx.2
    have v24 := e9.1.2
    rw [if_pos hx] at hQ
    have hw := (hI.wb (S.2.2.1 s.toNat).1.toNat).2.1
    have en : n = ((n.toNat - 1 : Nat) : Int) + 1 := by omega
    refine x_if_eq rfl (fun hc => ?_) (fun hc => ?_)
    · refine x_aload rfl rfl ?_
      refine x_iload rfl rfl ?_
      refine x_iload rfl rfl ?_
      refine x_callV2 rfl h.o (Nat.le_of_ble_eq_true rfl) ?_
      rw [e2]
      refine c_M_gone h hB e1 e5 e4 hw e9 (k := n.toNat - 1) (by omega) en (fun hu => ?_) (fun hu => ?_)
      · rw [if_neg hu] at hQ
        refine x_if_eq rfl (fun hc => ?_) (fun hc => ?_)
        · exact absurd hc (by decide)
        · refine x_const rfl ?_
          refine x_iret rfl ?_
          exact hQ μ ⟨g, hA⟩
      · rw [if_pos hu] at hQ
        refine x_if_eq rfl (fun hc => ?_) (fun hc => ?_)
        · refine x_aload rfl rfl ?_
          refine x_aload rfl rfl ?_
          refine x_get rfl h.o rfl ?_
          refine x_iload rfl rfl ?_
          refine x_rd (j := s.toNat) rfl h.a5 (by omega) (by omega) (e5) ?_
          refine x_aload rfl rfl ?_
          refine x_iload rfl rfl ?_
          refine x_iload rfl rfl ?_
          refine x_callV2 rfl h.o (Nat.le_of_ble_eq_true rfl) ?_
          refine c_M_uidOf h e1 e9 (k := n.toNat - 1) (by omega) en ?_
          refine x_callV2 rfl h.o (Nat.le_of_ble_eq_true rfl) ?_
          refine c_M_flagsOf h hB e4 hw hu ?_
          refine x_istore rfl (Nat.le_of_ble_eq_true rfl) ?_
          refine x_aload rfl rfl ?_
          refine x_get rfl h.o rfl ?_
          refine x_const rfl ?_
          refine x_iload rfl rfl ?_
          refine x_imul rfl ⟨by omega, by omega⟩ ?_
          refine x_iload rfl rfl ?_
          refine x_iadd rfl ⟨by omega, by omega⟩ ?_
          refine x_const rfl ?_
          refine x_isub rfl ⟨by omega, by omega⟩ ?_
          refine x_iload rfl rfl ?_
          refine x_iastN (j := 24 * s.toNat + (n.toNat - 1)) rfl h.a9 (by omega) (by omega) rfl (fun μ e o => ?_)
          replace h := h.st (j := 9) (Nat.le_of_ble_eq_true rfl) e o
          clear e o
          refine x_iload rfl rfl ?_
          refine x_iret rfl ?_
          refine hQ _ ⟨_, hA.se h (sF.rf.st (by omega) (pt_u (Or.inr rfl) (by omega))) ⟨?_, by unfold kn; simp only; omega, by unfold kn; simp only; omega, fun _ => ⟨e6, e7, e8, ?_, e10.cg rfl rfl⟩⟩⟩
          · exact (h3 s.toNat e1).1
          · exact e9.set (by omega) rfl rfl rfl
        · exact absurd rfl hc
    · exact absurd rfl hc
end R7
