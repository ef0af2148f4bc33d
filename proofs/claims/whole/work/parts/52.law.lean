/-! the law: class and reference side by side -/
def lwS (t : Nat) (μ : Nat → Option am_C) (S : mv_T) : Prop := VR μ S ∧ RR μ μ S ∧ INV t S
section La1
variable {μ0 μ μ' : Nat → Option am_C} {S : mv_T}
theorem VR.ob (h : VR μ S) : ∃ fs, μ 1 = some (.inl (0, fs)) := by
  obtain ⟨E, hX, -⟩ := h.VX
  exact ⟨_, hX.1⟩
theorem RR.ob (h : RR μ0 μ S) : ∃ fs, μ 50 = some (.inl (5, fs)) := by
  obtain ⟨g, ⟨hM, -⟩, -⟩ := h
  exact ⟨_, hM.1⟩
theorem RR.f (h : RR μ0 μ S) : fr μ0 μ 50 68 := by
  obtain ⟨g, ⟨hM, -⟩, -⟩ := h
  exact hM.2.2
theorem RR.self (h : RR μ0 μ S) : RR μ μ S := by
  obtain ⟨g, ⟨⟨h1, h2, -⟩, hM⟩, h3⟩ := h
  exact ⟨g, ⟨⟨h1, h2, fr.rf⟩, hM⟩, h3⟩
theorem RR.fr1 (h : RR μ0 μ S) (hf : fr μ μ' 1 50) : RR μ' μ' S := by
  obtain ⟨g, ⟨⟨h1, h2, -⟩, hM⟩, h3⟩ := h
  exact ⟨g, ⟨⟨by rw [hf 50 (by omega)]; exact h1, fun j hj => by rw [hf (51 + j) (by omega)]; exact h2 j hj, fr.rf⟩, hM⟩, h3⟩
theorem VR.fr2 (h : VR μ S) (hf : fr μ μ' 50 68) : VR μ' S := by
  obtain ⟨E, ⟨h1, h2, h3, h4, h5, h6, h7⟩, hj⟩ := h.VX
  exact ⟨E, ⟨by unfold voP; rw [hf 1 (by omega)]; exact h1, h2.fr hf (by omega), fun m hm => (h3 m hm).fr hf (by omega), fun s hs => (h4 s hs).fr hf (by omega), h5.fr hf (by omega), h6.fr hf (by omega), h7.fr hf (by omega)⟩, hj⟩
end La1
section La2
variable {ss t L : Nat} {xs : Nat → Int} {μ : Nat → Option am_C} {Q : Option am_V → am_M → Prop} {S : mv_T}
set_option maxRecDepth 20000 in
theorem law_append (h : lwS t μ S) (hi : 5 * t + 5 ≤ L) (hL : L ≤ 2560) (K : ∀ μ' S', lwS (t + 1) μ' S' → am_Ex mv_P 6 (am_at (kL_law L xs)) (720, [some (.inr (some 0)), some (.inr (some 1)), some (.inr (some 50)), some (.inl ((5 * t : Nat) : Int))], [], 68, ss, μ') Q) : am_Ex mv_P 6 (am_at (kL_law L xs)) (120, [some (.inr (some 0)), some (.inr (some 1)), some (.inr (some 50)), some (.inl ((5 * t : Nat) : Int))], [], 68, ss, μ) Q := by
  obtain ⟨hV, hR, hN⟩ := h
  obtain ⟨hI, hl⟩ := hN.ic (by omega)
  obtain ⟨fs1, o1⟩ := hV.ob
  refine x_aload rfl rfl ?_
  refine x_aload rfl rfl ?_
  refine x_iload rfl rfl ?_
  refine x_const rfl ?_
  refine x_iadd rfl ⟨by omega, by omega⟩ ?_
  refine x_sld rfl (by omega) (by omega) ?_
  refine x_aload rfl rfl ?_
  refine x_iload rfl rfl ?_
  refine x_const rfl ?_
  refine x_iadd rfl ⟨by omega, by omega⟩ ?_
  refine x_sld rfl (by omega) (by omega) ?_
  refine x_aload rfl rfl ?_
  refine x_iload rfl rfl ?_
  refine x_const rfl ?_
  refine x_iadd rfl ⟨by omega, by omega⟩ ?_
  refine x_sld rfl (by omega) (by omega) ?_
  refine x_callV3 rfl o1 (Nat.le_of_ble_eq_true rfl) ?_
  refine v_append hV hI (fun μ1 hV1 hf1 => ?_)
  have hR1 := hR.fr1 hf1
  obtain ⟨fs2, o2⟩ := hR1.ob
  refine x_aload rfl rfl ?_
  refine x_aload rfl rfl ?_
  refine x_iload rfl rfl ?_
  refine x_const rfl ?_
  refine x_iadd rfl ⟨by omega, by omega⟩ ?_
  refine x_sld rfl (by omega) (by omega) ?_
  refine x_aload rfl rfl ?_
  refine x_iload rfl rfl ?_
  refine x_const rfl ?_
  refine x_iadd rfl ⟨by omega, by omega⟩ ?_
  refine x_sld rfl (by omega) (by omega) ?_
  refine x_aload rfl rfl ?_
  refine x_iload rfl rfl ?_
  refine x_const rfl ?_
  refine x_iadd rfl ⟨by omega, by omega⟩ ?_
  refine x_sld rfl (by omega) (by omega) ?_
  refine x_callV3 rfl o2 (Nat.le_of_ble_eq_true rfl) ?_
  refine m_append hR1 hI.1 hl (fun μ2 hR2 => ?_)
  refine x_icmp_eq rfl (fun hc => ?_) (fun hc => ?_)
  · exact K μ2 _ ⟨hV1.fr2 hR2.f, hR2.self, hN.append (by omega)⟩
  · exact absurd rfl hc
set_option maxRecDepth 20000 in
theorem law_close (h : lwS t μ S) (hi : 5 * t + 5 ≤ L) (hL : L ≤ 2560) (K : ∀ μ' S', lwS (t + 1) μ' S' → am_Ex mv_P 6 (am_at (kL_law L xs)) (720, [some (.inr (some 0)), some (.inr (some 1)), some (.inr (some 50)), some (.inl ((5 * t : Nat) : Int))], [], 68, ss, μ') Q) : am_Ex mv_P 6 (am_at (kL_law L xs)) (222, [some (.inr (some 0)), some (.inr (some 1)), some (.inr (some 50)), some (.inl ((5 * t : Nat) : Int))], [], 68, ss, μ) Q := by
  obtain ⟨hV, hR, hN⟩ := h
  obtain ⟨hI, hl⟩ := hN.ic (by omega)
  obtain ⟨fs1, o1⟩ := hV.ob
  refine x_aload rfl rfl ?_
  refine x_aload rfl rfl ?_
  refine x_iload rfl rfl ?_
  refine x_const rfl ?_
  refine x_iadd rfl ⟨by omega, by omega⟩ ?_
  refine x_sld rfl (by omega) (by omega) ?_
  refine x_callV1 rfl o1 (Nat.le_of_ble_eq_true rfl) ?_
  refine v_close hV hI (fun μ1 hV1 hf1 => ?_)
  have hR1 := hR.fr1 hf1
  obtain ⟨fs2, o2⟩ := hR1.ob
  refine x_aload rfl rfl ?_
  refine x_aload rfl rfl ?_
  refine x_iload rfl rfl ?_
  refine x_const rfl ?_
  refine x_iadd rfl ⟨by omega, by omega⟩ ?_
  refine x_sld rfl (by omega) (by omega) ?_
  refine x_callV1 rfl o2 (Nat.le_of_ble_eq_true rfl) ?_
  refine m_close hR1 hI.1 hl (fun μ2 hR2 => ?_)
  refine x_icmp_eq rfl (fun hc => ?_) (fun hc => ?_)
  · exact K μ2 _ ⟨hV1.fr2 hR2.f, hR2.self, hN.close (by omega)⟩
  · exact absurd rfl hc
set_option maxRecDepth 20000 in
theorem law_check (h : lwS t μ S) (hi : 5 * t + 5 ≤ L) (hL : L ≤ 2560) (K : ∀ μ' S', lwS (t + 1) μ' S' → am_Ex mv_P 6 (am_at (kL_law L xs)) (720, [some (.inr (some 0)), some (.inr (some 1)), some (.inr (some 50)), some (.inl ((5 * t : Nat) : Int))], [], 68, ss, μ') Q) : am_Ex mv_P 6 (am_at (kL_law L xs)) (245, [some (.inr (some 0)), some (.inr (some 1)), some (.inr (some 50)), some (.inl ((5 * t : Nat) : Int))], [], 68, ss, μ) Q := by
  obtain ⟨hV, hR, hN⟩ := h
  obtain ⟨hI, hl⟩ := hN.ic (by omega)
  obtain ⟨fs1, o1⟩ := hV.ob
  refine x_aload rfl rfl ?_
  refine x_aload rfl rfl ?_
  refine x_iload rfl rfl ?_
  refine x_const rfl ?_
  refine x_iadd rfl ⟨by omega, by omega⟩ ?_
  refine x_sld rfl (by omega) (by omega) ?_
  refine x_callV1 rfl o1 (Nat.le_of_ble_eq_true rfl) ?_
  refine v_check hV hI (fun μ1 hV1 hf1 => ?_)
  have hR1 := hR.fr1 hf1
  obtain ⟨fs2, o2⟩ := hR1.ob
  refine x_aload rfl rfl ?_
  refine x_aload rfl rfl ?_
  refine x_iload rfl rfl ?_
  refine x_const rfl ?_
  refine x_iadd rfl ⟨by omega, by omega⟩ ?_
  refine x_sld rfl (by omega) (by omega) ?_
  refine x_callV1 rfl o2 (Nat.le_of_ble_eq_true rfl) ?_
  refine m_check hR1 hI.1 (fun μ2 hR2 => ?_)
  refine x_icmp_eq rfl (fun hc => ?_) (fun hc => ?_)
  · exact K μ2 _ ⟨hV1.fr2 hR2.f, hR2.self, hN.check⟩
  · exact absurd rfl hc
set_option maxRecDepth 20000 in
theorem law_fetch (h : lwS t μ S) (hi : 5 * t + 5 ≤ L) (hL : L ≤ 2560) (K : ∀ μ' S', lwS (t + 1) μ' S' → am_Ex mv_P 6 (am_at (kL_law L xs)) (720, [some (.inr (some 0)), some (.inr (some 1)), some (.inr (some 50)), some (.inl ((5 * t : Nat) : Int))], [], 68, ss, μ') Q) : am_Ex mv_P 6 (am_at (kL_law L xs)) (268, [some (.inr (some 0)), some (.inr (some 1)), some (.inr (some 50)), some (.inl ((5 * t : Nat) : Int))], [], 68, ss, μ) Q := by
  obtain ⟨hV, hR, hN⟩ := h
  obtain ⟨hI, hl⟩ := hN.ic (by omega)
  obtain ⟨fs1, o1⟩ := hV.ob
  refine x_aload rfl rfl ?_
  refine x_aload rfl rfl ?_
  refine x_iload rfl rfl ?_
  refine x_const rfl ?_
  refine x_iadd rfl ⟨by omega, by omega⟩ ?_
  refine x_sld rfl (by omega) (by omega) ?_
  refine x_aload rfl rfl ?_
  refine x_iload rfl rfl ?_
  refine x_const rfl ?_
  refine x_iadd rfl ⟨by omega, by omega⟩ ?_
  refine x_sld rfl (by omega) (by omega) ?_
  refine x_callV2 rfl o1 (Nat.le_of_ble_eq_true rfl) ?_
  refine v_fetch hV hI (fun μ1 hV1 hf1 => ?_)
  have hR1 := hR.fr1 hf1
  obtain ⟨fs2, o2⟩ := hR1.ob
  refine x_aload rfl rfl ?_
  refine x_aload rfl rfl ?_
  refine x_iload rfl rfl ?_
  refine x_const rfl ?_
  refine x_iadd rfl ⟨by omega, by omega⟩ ?_
  refine x_sld rfl (by omega) (by omega) ?_
  refine x_aload rfl rfl ?_
  refine x_iload rfl rfl ?_
  refine x_const rfl ?_
  refine x_iadd rfl ⟨by omega, by omega⟩ ?_
  refine x_sld rfl (by omega) (by omega) ?_
  refine x_callV2 rfl o2 (Nat.le_of_ble_eq_true rfl) ?_
  refine m_fetch hR1 hI.1 (fun μ2 hR2 => ?_)
  refine x_icmp_eq rfl (fun hc => ?_) (fun hc => ?_)
  · exact K μ2 _ ⟨hV1.fr2 hR2.f, hR2.self, hN.fetch⟩
  · exact absurd rfl hc
set_option maxRecDepth 20000 in
theorem law_store (h : lwS t μ S) (hi : 5 * t + 5 ≤ L) (hL : L ≤ 2560) (K : ∀ μ' S', lwS (t + 1) μ' S' → am_Ex mv_P 6 (am_at (kL_law L xs)) (720, [some (.inr (some 0)), some (.inr (some 1)), some (.inr (some 50)), some (.inl ((5 * t : Nat) : Int))], [], 68, ss, μ') Q) : am_Ex mv_P 6 (am_at (kL_law L xs)) (301, [some (.inr (some 0)), some (.inr (some 1)), some (.inr (some 50)), some (.inl ((5 * t : Nat) : Int))], [], 68, ss, μ) Q := by
  obtain ⟨hV, hR, hN⟩ := h
  obtain ⟨hI, hl⟩ := hN.ic (by omega)
  obtain ⟨fs1, o1⟩ := hV.ob
  refine x_aload rfl rfl ?_
  refine x_aload rfl rfl ?_
  refine x_iload rfl rfl ?_
  refine x_const rfl ?_
  refine x_iadd rfl ⟨by omega, by omega⟩ ?_
  refine x_sld rfl (by omega) (by omega) ?_
  refine x_aload rfl rfl ?_
  refine x_iload rfl rfl ?_
  refine x_const rfl ?_
  refine x_iadd rfl ⟨by omega, by omega⟩ ?_
  refine x_sld rfl (by omega) (by omega) ?_
  refine x_aload rfl rfl ?_
  refine x_iload rfl rfl ?_
  refine x_const rfl ?_
  refine x_iadd rfl ⟨by omega, by omega⟩ ?_
  refine x_sld rfl (by omega) (by omega) ?_
  refine x_aload rfl rfl ?_
  refine x_iload rfl rfl ?_
  refine x_const rfl ?_
  refine x_iadd rfl ⟨by omega, by omega⟩ ?_
  refine x_sld rfl (by omega) (by omega) ?_
  refine x_callV4 rfl o1 (Nat.le_of_ble_eq_true rfl) ?_
  refine v_store hV hI (fun μ1 hV1 hf1 => ?_)
  have hR1 := hR.fr1 hf1
  obtain ⟨fs2, o2⟩ := hR1.ob
  refine x_aload rfl rfl ?_
  refine x_aload rfl rfl ?_
  refine x_iload rfl rfl ?_
  refine x_const rfl ?_
  refine x_iadd rfl ⟨by omega, by omega⟩ ?_
  refine x_sld rfl (by omega) (by omega) ?_
  refine x_aload rfl rfl ?_
  refine x_iload rfl rfl ?_
  refine x_const rfl ?_
  refine x_iadd rfl ⟨by omega, by omega⟩ ?_
  refine x_sld rfl (by omega) (by omega) ?_
  refine x_aload rfl rfl ?_
  refine x_iload rfl rfl ?_
  refine x_const rfl ?_
  refine x_iadd rfl ⟨by omega, by omega⟩ ?_
  refine x_sld rfl (by omega) (by omega) ?_
  refine x_aload rfl rfl ?_
  refine x_iload rfl rfl ?_
  refine x_const rfl ?_
  refine x_iadd rfl ⟨by omega, by omega⟩ ?_
  refine x_sld rfl (by omega) (by omega) ?_
  refine x_callV4 rfl o2 (Nat.le_of_ble_eq_true rfl) ?_
  refine m_store hR1 hI.1 hl (fun μ2 hR2 => ?_)
  refine x_icmp_eq rfl (fun hc => ?_) (fun hc => ?_)
  · exact K μ2 _ ⟨hV1.fr2 hR2.f, hR2.self, hN.store (by omega)⟩
  · exact absurd rfl hc
set_option maxRecDepth 20000 in
theorem law_expunge (h : lwS t μ S) (hi : 5 * t + 5 ≤ L) (hL : L ≤ 2560) (K : ∀ μ' S', lwS (t + 1) μ' S' → am_Ex mv_P 6 (am_at (kL_law L xs)) (720, [some (.inr (some 0)), some (.inr (some 1)), some (.inr (some 50)), some (.inl ((5 * t : Nat) : Int))], [], 68, ss, μ') Q) : am_Ex mv_P 6 (am_at (kL_law L xs)) (354, [some (.inr (some 0)), some (.inr (some 1)), some (.inr (some 50)), some (.inl ((5 * t : Nat) : Int))], [], 68, ss, μ) Q := by
  obtain ⟨hV, hR, hN⟩ := h
  obtain ⟨hI, hl⟩ := hN.ic (by omega)
  obtain ⟨fs1, o1⟩ := hV.ob
  refine x_aload rfl rfl ?_
  refine x_aload rfl rfl ?_
  refine x_iload rfl rfl ?_
  refine x_const rfl ?_
  refine x_iadd rfl ⟨by omega, by omega⟩ ?_
  refine x_sld rfl (by omega) (by omega) ?_
  refine x_callV1 rfl o1 (Nat.le_of_ble_eq_true rfl) ?_
  refine v_expunge hV hI (fun μ1 hV1 hf1 => ?_)
  have hR1 := hR.fr1 hf1
  obtain ⟨fs2, o2⟩ := hR1.ob
  refine x_aload rfl rfl ?_
  refine x_aload rfl rfl ?_
  refine x_iload rfl rfl ?_
  refine x_const rfl ?_
  refine x_iadd rfl ⟨by omega, by omega⟩ ?_
  refine x_sld rfl (by omega) (by omega) ?_
  refine x_callV1 rfl o2 (Nat.le_of_ble_eq_true rfl) ?_
  refine m_expunge hR1 hI.1 hl (fun μ2 hR2 => ?_)
  refine x_icmp_eq rfl (fun hc => ?_) (fun hc => ?_)
  · exact K μ2 _ ⟨hV1.fr2 hR2.f, hR2.self, hN.expunge (by omega)⟩
  · exact absurd rfl hc
set_option maxRecDepth 20000 in
theorem law_copy (h : lwS t μ S) (hi : 5 * t + 5 ≤ L) (hL : L ≤ 2560) (K : ∀ μ' S', lwS (t + 1) μ' S' → am_Ex mv_P 6 (am_at (kL_law L xs)) (720, [some (.inr (some 0)), some (.inr (some 1)), some (.inr (some 50)), some (.inl ((5 * t : Nat) : Int))], [], 68, ss, μ') Q) : am_Ex mv_P 6 (am_at (kL_law L xs)) (377, [some (.inr (some 0)), some (.inr (some 1)), some (.inr (some 50)), some (.inl ((5 * t : Nat) : Int))], [], 68, ss, μ) Q := by
  obtain ⟨hV, hR, hN⟩ := h
  obtain ⟨hI, hl⟩ := hN.ic (by omega)
  obtain ⟨fs1, o1⟩ := hV.ob
  refine x_aload rfl rfl ?_
  refine x_aload rfl rfl ?_
  refine x_iload rfl rfl ?_
  refine x_const rfl ?_
  refine x_iadd rfl ⟨by omega, by omega⟩ ?_
  refine x_sld rfl (by omega) (by omega) ?_
  refine x_aload rfl rfl ?_
  refine x_iload rfl rfl ?_
  refine x_const rfl ?_
  refine x_iadd rfl ⟨by omega, by omega⟩ ?_
  refine x_sld rfl (by omega) (by omega) ?_
  refine x_aload rfl rfl ?_
  refine x_iload rfl rfl ?_
  refine x_const rfl ?_
  refine x_iadd rfl ⟨by omega, by omega⟩ ?_
  refine x_sld rfl (by omega) (by omega) ?_
  refine x_callV3 rfl o1 (Nat.le_of_ble_eq_true rfl) ?_
  refine v_copy hV hI (fun μ1 hV1 hf1 => ?_)
  have hR1 := hR.fr1 hf1
  obtain ⟨fs2, o2⟩ := hR1.ob
  refine x_aload rfl rfl ?_
  refine x_aload rfl rfl ?_
  refine x_iload rfl rfl ?_
  refine x_const rfl ?_
  refine x_iadd rfl ⟨by omega, by omega⟩ ?_
  refine x_sld rfl (by omega) (by omega) ?_
  refine x_aload rfl rfl ?_
  refine x_iload rfl rfl ?_
  refine x_const rfl ?_
  refine x_iadd rfl ⟨by omega, by omega⟩ ?_
  refine x_sld rfl (by omega) (by omega) ?_
  refine x_aload rfl rfl ?_
  refine x_iload rfl rfl ?_
  refine x_const rfl ?_
  refine x_iadd rfl ⟨by omega, by omega⟩ ?_
  refine x_sld rfl (by omega) (by omega) ?_
  refine x_callV3 rfl o2 (Nat.le_of_ble_eq_true rfl) ?_
  refine m_copy hR1 hI.1 hl (fun μ2 hR2 => ?_)
  refine x_icmp_eq rfl (fun hc => ?_) (fun hc => ?_)
  · exact K μ2 _ ⟨hV1.fr2 hR2.f, hR2.self, hN.copy (by omega)⟩
  · exact absurd rfl hc
set_option maxRecDepth 20000 in
theorem law_criterion (h : lwS t μ S) (hi : 5 * t + 5 ≤ L) (hL : L ≤ 2560) (K : ∀ μ' S', lwS (t + 1) μ' S' → am_Ex mv_P 6 (am_at (kL_law L xs)) (720, [some (.inr (some 0)), some (.inr (some 1)), some (.inr (some 50)), some (.inl ((5 * t : Nat) : Int))], [], 68, ss, μ') Q) : am_Ex mv_P 6 (am_at (kL_law L xs)) (420, [some (.inr (some 0)), some (.inr (some 1)), some (.inr (some 50)), some (.inl ((5 * t : Nat) : Int))], [], 68, ss, μ) Q := by
  obtain ⟨hV, hR, hN⟩ := h
  obtain ⟨hI, hl⟩ := hN.ic (by omega)
  obtain ⟨fs1, o1⟩ := hV.ob
  refine x_aload rfl rfl ?_
  refine x_aload rfl rfl ?_
  refine x_iload rfl rfl ?_
  refine x_const rfl ?_
  refine x_iadd rfl ⟨by omega, by omega⟩ ?_
  refine x_sld rfl (by omega) (by omega) ?_
  refine x_aload rfl rfl ?_
  refine x_iload rfl rfl ?_
  refine x_const rfl ?_
  refine x_iadd rfl ⟨by omega, by omega⟩ ?_
  refine x_sld rfl (by omega) (by omega) ?_
  refine x_aload rfl rfl ?_
  refine x_iload rfl rfl ?_
  refine x_const rfl ?_
  refine x_iadd rfl ⟨by omega, by omega⟩ ?_
  refine x_sld rfl (by omega) (by omega) ?_
  refine x_callV3 rfl o1 (Nat.le_of_ble_eq_true rfl) ?_
  refine v_criterion hV (fun μ1 hV1 hf1 => ?_)
  have hR1 := hR.fr1 hf1
  obtain ⟨fs2, o2⟩ := hR1.ob
  refine x_aload rfl rfl ?_
  refine x_aload rfl rfl ?_
  refine x_iload rfl rfl ?_
  refine x_const rfl ?_
  refine x_iadd rfl ⟨by omega, by omega⟩ ?_
  refine x_sld rfl (by omega) (by omega) ?_
  refine x_aload rfl rfl ?_
  refine x_iload rfl rfl ?_
  refine x_const rfl ?_
  refine x_iadd rfl ⟨by omega, by omega⟩ ?_
  refine x_sld rfl (by omega) (by omega) ?_
  refine x_aload rfl rfl ?_
  refine x_iload rfl rfl ?_
  refine x_const rfl ?_
  refine x_iadd rfl ⟨by omega, by omega⟩ ?_
  refine x_sld rfl (by omega) (by omega) ?_
  refine x_callV3 rfl o2 (Nat.le_of_ble_eq_true rfl) ?_
  refine m_criterion hR1 (fun μ2 hR2 => ?_)
  refine x_icmp_eq rfl (fun hc => ?_) (fun hc => ?_)
  · exact K μ2 _ ⟨hV1.fr2 hR2.f, hR2.self, hN.criterion⟩
  · exact absurd rfl hc
set_option maxRecDepth 20000 in
theorem law_search (h : lwS t μ S) (hi : 5 * t + 5 ≤ L) (hL : L ≤ 2560) (K : ∀ μ' S', lwS (t + 1) μ' S' → am_Ex mv_P 6 (am_at (kL_law L xs)) (720, [some (.inr (some 0)), some (.inr (some 1)), some (.inr (some 50)), some (.inl ((5 * t : Nat) : Int))], [], 68, ss, μ') Q) : am_Ex mv_P 6 (am_at (kL_law L xs)) (463, [some (.inr (some 0)), some (.inr (some 1)), some (.inr (some 50)), some (.inl ((5 * t : Nat) : Int))], [], 68, ss, μ) Q := by
  obtain ⟨hV, hR, hN⟩ := h
  obtain ⟨hI, hl⟩ := hN.ic (by omega)
  obtain ⟨fs1, o1⟩ := hV.ob
  refine x_aload rfl rfl ?_
  refine x_aload rfl rfl ?_
  refine x_iload rfl rfl ?_
  refine x_const rfl ?_
  refine x_iadd rfl ⟨by omega, by omega⟩ ?_
  refine x_sld rfl (by omega) (by omega) ?_
  refine x_callV1 rfl o1 (Nat.le_of_ble_eq_true rfl) ?_
  refine v_search hV hI (fun μ1 hV1 hf1 => ?_)
  have hR1 := hR.fr1 hf1
  obtain ⟨fs2, o2⟩ := hR1.ob
  refine x_aload rfl rfl ?_
  refine x_aload rfl rfl ?_
  refine x_iload rfl rfl ?_
  refine x_const rfl ?_
  refine x_iadd rfl ⟨by omega, by omega⟩ ?_
  refine x_sld rfl (by omega) (by omega) ?_
  refine x_callV1 rfl o2 (Nat.le_of_ble_eq_true rfl) ?_
  refine m_search hR1 hI.1 hN.2.2.2.2 (fun μ2 hR2 => ?_)
  refine x_icmp_eq rfl (fun hc => ?_) (fun hc => ?_)
  · exact K μ2 _ ⟨hV1.fr2 hR2.f, hR2.self, hN.search⟩
  · exact absurd rfl hc
set_option maxRecDepth 20000 in
theorem law_found (h : lwS t μ S) (hi : 5 * t + 5 ≤ L) (hL : L ≤ 2560) (K : ∀ μ' S', lwS (t + 1) μ' S' → am_Ex mv_P 6 (am_at (kL_law L xs)) (720, [some (.inr (some 0)), some (.inr (some 1)), some (.inr (some 50)), some (.inl ((5 * t : Nat) : Int))], [], 68, ss, μ') Q) : am_Ex mv_P 6 (am_at (kL_law L xs)) (486, [some (.inr (some 0)), some (.inr (some 1)), some (.inr (some 50)), some (.inl ((5 * t : Nat) : Int))], [], 68, ss, μ) Q := by
  obtain ⟨hV, hR, hN⟩ := h
  obtain ⟨hI, hl⟩ := hN.ic (by omega)
  obtain ⟨fs1, o1⟩ := hV.ob
  refine x_aload rfl rfl ?_
  refine x_aload rfl rfl ?_
  refine x_iload rfl rfl ?_
  refine x_const rfl ?_
  refine x_iadd rfl ⟨by omega, by omega⟩ ?_
  refine x_sld rfl (by omega) (by omega) ?_
  refine x_callV1 rfl o1 (Nat.le_of_ble_eq_true rfl) ?_
  refine v_found hV ?_
  obtain ⟨fs2, o2⟩ := hR.ob
  refine x_aload rfl rfl ?_
  refine x_aload rfl rfl ?_
  refine x_iload rfl rfl ?_
  refine x_const rfl ?_
  refine x_iadd rfl ⟨by omega, by omega⟩ ?_
  refine x_sld rfl (by omega) (by omega) ?_
  refine x_callV1 rfl o2 (Nat.le_of_ble_eq_true rfl) ?_
  refine m_found hR ?_
  refine x_icmp_eq rfl (fun hc => ?_) (fun hc => ?_)
  · exact K μ S ⟨hV, hR, hN.up⟩
  · exact absurd rfl hc
set_option maxRecDepth 20000 in
theorem law_sync (h : lwS t μ S) (hi : 5 * t + 5 ≤ L) (hL : L ≤ 2560) (K : ∀ μ' S', lwS (t + 1) μ' S' → am_Ex mv_P 6 (am_at (kL_law L xs)) (720, [some (.inr (some 0)), some (.inr (some 1)), some (.inr (some 50)), some (.inl ((5 * t : Nat) : Int))], [], 68, ss, μ') Q) : am_Ex mv_P 6 (am_at (kL_law L xs)) (509, [some (.inr (some 0)), some (.inr (some 1)), some (.inr (some 50)), some (.inl ((5 * t : Nat) : Int))], [], 68, ss, μ) Q := by
  obtain ⟨hV, hR, hN⟩ := h
  obtain ⟨hI, hl⟩ := hN.ic (by omega)
  obtain ⟨fs1, o1⟩ := hV.ob
  refine x_aload rfl rfl ?_
  refine x_callV0 rfl o1 (Nat.le_of_ble_eq_true rfl) ?_
  refine v_sync hV hI (fun μ1 hV1 hf1 => ?_)
  have hR1 := hR.fr1 hf1
  obtain ⟨fs2, o2⟩ := hR1.ob
  refine x_aload rfl rfl ?_
  refine x_callV0 rfl o2 (Nat.le_of_ble_eq_true rfl) ?_
  refine m_sync hR1 (fun μ2 hR2 => ?_)
  refine x_icmp_eq rfl (fun hc => ?_) (fun hc => ?_)
  · exact K μ2 _ ⟨hV1.fr2 hR2.f, hR2.self, hN.sync⟩
  · exact absurd rfl hc
set_option maxRecDepth 20000 in
theorem law_crash (h : lwS t μ S) (hi : 5 * t + 5 ≤ L) (hL : L ≤ 2560) (K : ∀ μ' S', lwS (t + 1) μ' S' → am_Ex mv_P 6 (am_at (kL_law L xs)) (720, [some (.inr (some 0)), some (.inr (some 1)), some (.inr (some 50)), some (.inl ((5 * t : Nat) : Int))], [], 68, ss, μ') Q) : am_Ex mv_P 6 (am_at (kL_law L xs)) (522, [some (.inr (some 0)), some (.inr (some 1)), some (.inr (some 50)), some (.inl ((5 * t : Nat) : Int))], [], 68, ss, μ) Q := by
  obtain ⟨hV, hR, hN⟩ := h
  obtain ⟨hI, hl⟩ := hN.ic (by omega)
  obtain ⟨fs1, o1⟩ := hV.ob
  refine x_aload rfl rfl ?_
  refine x_callV0 rfl o1 (Nat.le_of_ble_eq_true rfl) ?_
  refine v_crash hV hI (fun μ1 hV1 hf1 => ?_)
  have hR1 := hR.fr1 hf1
  obtain ⟨fs2, o2⟩ := hR1.ob
  refine x_aload rfl rfl ?_
  refine x_callV0 rfl o2 (Nat.le_of_ble_eq_true rfl) ?_
  refine m_crash hR1 hI.1 hl hI.2.2.1 (fun μ2 hR2 => ?_)
  refine x_icmp_eq rfl (fun hc => ?_) (fun hc => ?_)
  · exact K μ2 _ ⟨hV1.fr2 hR2.f, hR2.self, hN.crash⟩
  · exact absurd rfl hc
set_option maxRecDepth 20000 in
theorem law_message (h : lwS t μ S) (hi : 5 * t + 5 ≤ L) (hL : L ≤ 2560) (K : ∀ μ' S', lwS (t + 1) μ' S' → am_Ex mv_P 6 (am_at (kL_law L xs)) (720, [some (.inr (some 0)), some (.inr (some 1)), some (.inr (some 50)), some (.inl ((5 * t : Nat) : Int))], [], 68, ss, μ') Q) : am_Ex mv_P 6 (am_at (kL_law L xs)) (535, [some (.inr (some 0)), some (.inr (some 1)), some (.inr (some 50)), some (.inl ((5 * t : Nat) : Int))], [], 68, ss, μ) Q := by
  obtain ⟨hV, hR, hN⟩ := h
  obtain ⟨hI, hl⟩ := hN.ic (by omega)
  obtain ⟨fs1, o1⟩ := hV.ob
  refine x_aload rfl rfl ?_
  refine x_aload rfl rfl ?_
  refine x_iload rfl rfl ?_
  refine x_const rfl ?_
  refine x_iadd rfl ⟨by omega, by omega⟩ ?_
  refine x_sld rfl (by omega) (by omega) ?_
  refine x_aload rfl rfl ?_
  refine x_iload rfl rfl ?_
  refine x_const rfl ?_
  refine x_iadd rfl ⟨by omega, by omega⟩ ?_
  refine x_sld rfl (by omega) (by omega) ?_
  refine x_aload rfl rfl ?_
  refine x_iload rfl rfl ?_
  refine x_const rfl ?_
  refine x_iadd rfl ⟨by omega, by omega⟩ ?_
  refine x_sld rfl (by omega) (by omega) ?_
  refine x_callV3 rfl o1 (Nat.le_of_ble_eq_true rfl) ?_
  refine v_message hV ?_
  obtain ⟨fs2, o2⟩ := hR.ob
  refine x_aload rfl rfl ?_
  refine x_aload rfl rfl ?_
  refine x_iload rfl rfl ?_
  refine x_const rfl ?_
  refine x_iadd rfl ⟨by omega, by omega⟩ ?_
  refine x_sld rfl (by omega) (by omega) ?_
  refine x_aload rfl rfl ?_
  refine x_iload rfl rfl ?_
  refine x_const rfl ?_
  refine x_iadd rfl ⟨by omega, by omega⟩ ?_
  refine x_sld rfl (by omega) (by omega) ?_
  refine x_aload rfl rfl ?_
  refine x_iload rfl rfl ?_
  refine x_const rfl ?_
  refine x_iadd rfl ⟨by omega, by omega⟩ ?_
  refine x_sld rfl (by omega) (by omega) ?_
  refine x_callV3 rfl o2 (Nat.le_of_ble_eq_true rfl) ?_
  refine m_message hR hI.1 ?_
  refine x_icmp_eq rfl (fun hc => ?_) (fun hc => ?_)
  · exact K μ S ⟨hV, hR, hN.up⟩
  · exact absurd rfl hc
set_option maxRecDepth 20000 in
theorem law_seen (h : lwS t μ S) (hi : 5 * t + 5 ≤ L) (hL : L ≤ 2560) (K : ∀ μ' S', lwS (t + 1) μ' S' → am_Ex mv_P 6 (am_at (kL_law L xs)) (720, [some (.inr (some 0)), some (.inr (some 1)), some (.inr (some 50)), some (.inl ((5 * t : Nat) : Int))], [], 68, ss, μ') Q) : am_Ex mv_P 6 (am_at (kL_law L xs)) (578, [some (.inr (some 0)), some (.inr (some 1)), some (.inr (some 50)), some (.inl ((5 * t : Nat) : Int))], [], 68, ss, μ) Q := by
  obtain ⟨hV, hR, hN⟩ := h
  obtain ⟨hI, hl⟩ := hN.ic (by omega)
  obtain ⟨fs1, o1⟩ := hV.ob
  refine x_aload rfl rfl ?_
  refine x_aload rfl rfl ?_
  refine x_iload rfl rfl ?_
  refine x_const rfl ?_
  refine x_iadd rfl ⟨by omega, by omega⟩ ?_
  refine x_sld rfl (by omega) (by omega) ?_
  refine x_aload rfl rfl ?_
  refine x_iload rfl rfl ?_
  refine x_const rfl ?_
  refine x_iadd rfl ⟨by omega, by omega⟩ ?_
  refine x_sld rfl (by omega) (by omega) ?_
  refine x_aload rfl rfl ?_
  refine x_iload rfl rfl ?_
  refine x_const rfl ?_
  refine x_iadd rfl ⟨by omega, by omega⟩ ?_
  refine x_sld rfl (by omega) (by omega) ?_
  refine x_callV3 rfl o1 (Nat.le_of_ble_eq_true rfl) ?_
  refine v_seen hV hI ?_
  obtain ⟨fs2, o2⟩ := hR.ob
  refine x_aload rfl rfl ?_
  refine x_aload rfl rfl ?_
  refine x_iload rfl rfl ?_
  refine x_const rfl ?_
  refine x_iadd rfl ⟨by omega, by omega⟩ ?_
  refine x_sld rfl (by omega) (by omega) ?_
  refine x_aload rfl rfl ?_
  refine x_iload rfl rfl ?_
  refine x_const rfl ?_
  refine x_iadd rfl ⟨by omega, by omega⟩ ?_
  refine x_sld rfl (by omega) (by omega) ?_
  refine x_aload rfl rfl ?_
  refine x_iload rfl rfl ?_
  refine x_const rfl ?_
  refine x_iadd rfl ⟨by omega, by omega⟩ ?_
  refine x_sld rfl (by omega) (by omega) ?_
  refine x_callV3 rfl o2 (Nat.le_of_ble_eq_true rfl) ?_
  refine m_seen hR ?_
  refine x_icmp_eq rfl (fun hc => ?_) (fun hc => ?_)
  · exact K μ S ⟨hV, hR, hN.up⟩
  · exact absurd rfl hc
set_option maxRecDepth 20000 in
theorem law_notice (h : lwS t μ S) (hi : 5 * t + 5 ≤ L) (hL : L ≤ 2560) (K : ∀ μ' S', lwS (t + 1) μ' S' → am_Ex mv_P 6 (am_at (kL_law L xs)) (720, [some (.inr (some 0)), some (.inr (some 1)), some (.inr (some 50)), some (.inl ((5 * t : Nat) : Int))], [], 68, ss, μ') Q) : am_Ex mv_P 6 (am_at (kL_law L xs)) (621, [some (.inr (some 0)), some (.inr (some 1)), some (.inr (some 50)), some (.inl ((5 * t : Nat) : Int))], [], 68, ss, μ) Q := by
  obtain ⟨hV, hR, hN⟩ := h
  obtain ⟨hI, hl⟩ := hN.ic (by omega)
  obtain ⟨fs1, o1⟩ := hV.ob
  refine x_aload rfl rfl ?_
  refine x_aload rfl rfl ?_
  refine x_iload rfl rfl ?_
  refine x_const rfl ?_
  refine x_iadd rfl ⟨by omega, by omega⟩ ?_
  refine x_sld rfl (by omega) (by omega) ?_
  refine x_aload rfl rfl ?_
  refine x_iload rfl rfl ?_
  refine x_const rfl ?_
  refine x_iadd rfl ⟨by omega, by omega⟩ ?_
  refine x_sld rfl (by omega) (by omega) ?_
  refine x_aload rfl rfl ?_
  refine x_iload rfl rfl ?_
  refine x_const rfl ?_
  refine x_iadd rfl ⟨by omega, by omega⟩ ?_
  refine x_sld rfl (by omega) (by omega) ?_
  refine x_callV3 rfl o1 (Nat.le_of_ble_eq_true rfl) ?_
  refine v_notice hV hI ?_
  obtain ⟨fs2, o2⟩ := hR.ob
  refine x_aload rfl rfl ?_
  refine x_aload rfl rfl ?_
  refine x_iload rfl rfl ?_
  refine x_const rfl ?_
  refine x_iadd rfl ⟨by omega, by omega⟩ ?_
  refine x_sld rfl (by omega) (by omega) ?_
  refine x_aload rfl rfl ?_
  refine x_iload rfl rfl ?_
  refine x_const rfl ?_
  refine x_iadd rfl ⟨by omega, by omega⟩ ?_
  refine x_sld rfl (by omega) (by omega) ?_
  refine x_aload rfl rfl ?_
  refine x_iload rfl rfl ?_
  refine x_const rfl ?_
  refine x_iadd rfl ⟨by omega, by omega⟩ ?_
  refine x_sld rfl (by omega) (by omega) ?_
  refine x_callV3 rfl o2 (Nat.le_of_ble_eq_true rfl) ?_
  refine m_notice hR ?_
  refine x_icmp_eq rfl (fun hc => ?_) (fun hc => ?_)
  · exact K μ S ⟨hV, hR, hN.up⟩
  · exact absurd rfl hc
set_option maxRecDepth 20000 in
theorem law_mailbox (h : lwS t μ S) (hi : 5 * t + 5 ≤ L) (hL : L ≤ 2560) (K : ∀ μ' S', lwS (t + 1) μ' S' → am_Ex mv_P 6 (am_at (kL_law L xs)) (720, [some (.inr (some 0)), some (.inr (some 1)), some (.inr (some 50)), some (.inl ((5 * t : Nat) : Int))], [], 68, ss, μ') Q) : am_Ex mv_P 6 (am_at (kL_law L xs)) (664, [some (.inr (some 0)), some (.inr (some 1)), some (.inr (some 50)), some (.inl ((5 * t : Nat) : Int))], [], 68, ss, μ) Q := by
  obtain ⟨hV, hR, hN⟩ := h
  obtain ⟨hI, hl⟩ := hN.ic (by omega)
  obtain ⟨fs1, o1⟩ := hV.ob
  refine x_aload rfl rfl ?_
  refine x_aload rfl rfl ?_
  refine x_iload rfl rfl ?_
  refine x_const rfl ?_
  refine x_iadd rfl ⟨by omega, by omega⟩ ?_
  refine x_sld rfl (by omega) (by omega) ?_
  refine x_aload rfl rfl ?_
  refine x_iload rfl rfl ?_
  refine x_const rfl ?_
  refine x_iadd rfl ⟨by omega, by omega⟩ ?_
  refine x_sld rfl (by omega) (by omega) ?_
  refine x_callV2 rfl o1 (Nat.le_of_ble_eq_true rfl) ?_
  refine v_mailbox hV ?_
  obtain ⟨fs2, o2⟩ := hR.ob
  refine x_aload rfl rfl ?_
  refine x_aload rfl rfl ?_
  refine x_iload rfl rfl ?_
  refine x_const rfl ?_
  refine x_iadd rfl ⟨by omega, by omega⟩ ?_
  refine x_sld rfl (by omega) (by omega) ?_
  refine x_aload rfl rfl ?_
  refine x_iload rfl rfl ?_
  refine x_const rfl ?_
  refine x_iadd rfl ⟨by omega, by omega⟩ ?_
  refine x_sld rfl (by omega) (by omega) ?_
  refine x_callV2 rfl o2 (Nat.le_of_ble_eq_true rfl) ?_
  refine m_mailbox hR ?_
  refine x_icmp_eq rfl (fun hc => ?_) (fun hc => ?_)
  · exact K μ S ⟨hV, hR, hN.up⟩
  · exact absurd rfl hc
set_option maxRecDepth 20000 in
theorem law_count (h : lwS t μ S) (hi : 5 * t + 5 ≤ L) (hL : L ≤ 2560) (K : ∀ μ' S', lwS (t + 1) μ' S' → am_Ex mv_P 6 (am_at (kL_law L xs)) (720, [some (.inr (some 0)), some (.inr (some 1)), some (.inr (some 50)), some (.inl ((5 * t : Nat) : Int))], [], 68, ss, μ') Q) : am_Ex mv_P 6 (am_at (kL_law L xs)) (697, [some (.inr (some 0)), some (.inr (some 1)), some (.inr (some 50)), some (.inl ((5 * t : Nat) : Int))], [], 68, ss, μ) Q := by
  obtain ⟨hV, hR, hN⟩ := h
  obtain ⟨hI, hl⟩ := hN.ic (by omega)
  obtain ⟨fs1, o1⟩ := hV.ob
  refine x_aload rfl rfl ?_
  refine x_aload rfl rfl ?_
  refine x_iload rfl rfl ?_
  refine x_const rfl ?_
  refine x_iadd rfl ⟨by omega, by omega⟩ ?_
  refine x_sld rfl (by omega) (by omega) ?_
  refine x_callV1 rfl o1 (Nat.le_of_ble_eq_true rfl) ?_
  refine v_count hV hI ?_
  obtain ⟨fs2, o2⟩ := hR.ob
  refine x_aload rfl rfl ?_
  refine x_aload rfl rfl ?_
  refine x_iload rfl rfl ?_
  refine x_const rfl ?_
  refine x_iadd rfl ⟨by omega, by omega⟩ ?_
  refine x_sld rfl (by omega) (by omega) ?_
  refine x_callV1 rfl o2 (Nat.le_of_ble_eq_true rfl) ?_
  refine m_count hR ?_
  refine x_icmp_eq rfl (fun hc => ?_) (fun hc => ?_)
  · exact K μ S ⟨hV, hR, hN.up⟩
  · exact absurd rfl hc
set_option maxRecDepth 20000 in
theorem law_select (h : lwS t μ S) (hi : 5 * t + 5 ≤ L) (hL : L ≤ 2560) (K : ∀ μ' S', lwS (t + 1) μ' S' → am_Ex mv_P 6 (am_at (kL_law L xs)) (720, [some (.inr (some 0)), some (.inr (some 1)), some (.inr (some 50)), some (.inl ((5 * t : Nat) : Int))], [], 68, ss, μ') Q) : am_Ex mv_P 6 (am_at (kL_law L xs)) (163, [some (.inr (some 0)), some (.inr (some 1)), some (.inr (some 50)), some (.inl ((5 * t : Nat) : Int))], [], 68, ss, μ) Q := by
  obtain ⟨hV, hR, hN⟩ := h
  obtain ⟨hI, hl⟩ := hN.ic (by omega)
  obtain ⟨fs1, o1⟩ := hV.ob
  refine x_aload rfl rfl ?_
  refine x_aload rfl rfl ?_
  refine x_iload rfl rfl ?_
  refine x_const rfl ?_
  refine x_iadd rfl ⟨by omega, by omega⟩ ?_
  refine x_sld rfl (by omega) (by omega) ?_
  refine x_aload rfl rfl ?_
  refine x_iload rfl rfl ?_
  refine x_const rfl ?_
  refine x_iadd rfl ⟨by omega, by omega⟩ ?_
  refine x_sld rfl (by omega) (by omega) ?_
  refine x_aload rfl rfl ?_
  refine x_iload rfl rfl ?_
  refine x_const rfl ?_
  refine x_iadd rfl ⟨by omega, by omega⟩ ?_
  refine x_sld rfl (by omega) (by omega) ?_
  refine x_if_eq rfl (fun hc => ?_) (fun hc => ?_)
  · have hx := hc
    refine x_const rfl ?_
    refine x_callV3 rfl o1 (Nat.le_of_ble_eq_true rfl) ?_
    refine v_select (Or.inl rfl) hV hI (fun μ1 hV1 hf1 => ?_)
    have hR1 := hR.fr1 hf1
    obtain ⟨fs2, o2⟩ := hR1.ob
    refine x_aload rfl rfl ?_
    refine x_aload rfl rfl ?_
    refine x_iload rfl rfl ?_
    refine x_const rfl ?_
    refine x_iadd rfl ⟨by omega, by omega⟩ ?_
    refine x_sld rfl (by omega) (by omega) ?_
    refine x_aload rfl rfl ?_
    refine x_iload rfl rfl ?_
    refine x_const rfl ?_
    refine x_iadd rfl ⟨by omega, by omega⟩ ?_
    refine x_sld rfl (by omega) (by omega) ?_
    refine x_aload rfl rfl ?_
    refine x_iload rfl rfl ?_
    refine x_const rfl ?_
    refine x_iadd rfl ⟨by omega, by omega⟩ ?_
    refine x_sld rfl (by omega) (by omega) ?_
    refine x_if_eq rfl (fun hc => ?_) (fun hc => ?_)
    · refine x_const rfl ?_
      refine x_callV3 rfl o2 (Nat.le_of_ble_eq_true rfl) ?_
      refine m_select (Or.inl rfl) hR1 hI.1 (fun μ2 hR2 => ?_)
      refine x_icmp_eq rfl (fun hc => ?_) (fun hc => ?_)
      · exact K μ2 _ ⟨hV1.fr2 hR2.f, hR2.self, hN.select⟩
      · exact absurd rfl hc
    · exact absurd hx hc
  · have hx := hc
    refine x_const rfl ?_
    refine x_goto rfl ?_
    refine x_callV3 rfl o1 (Nat.le_of_ble_eq_true rfl) ?_
    refine v_select (Or.inr rfl) hV hI (fun μ1 hV1 hf1 => ?_)
    have hR1 := hR.fr1 hf1
    obtain ⟨fs2, o2⟩ := hR1.ob
    refine x_aload rfl rfl ?_
    refine x_aload rfl rfl ?_
    refine x_iload rfl rfl ?_
    refine x_const rfl ?_
    refine x_iadd rfl ⟨by omega, by omega⟩ ?_
    refine x_sld rfl (by omega) (by omega) ?_
    refine x_aload rfl rfl ?_
    refine x_iload rfl rfl ?_
    refine x_const rfl ?_
    refine x_iadd rfl ⟨by omega, by omega⟩ ?_
    refine x_sld rfl (by omega) (by omega) ?_
    refine x_aload rfl rfl ?_
    refine x_iload rfl rfl ?_
    refine x_const rfl ?_
    refine x_iadd rfl ⟨by omega, by omega⟩ ?_
    refine x_sld rfl (by omega) (by omega) ?_
    refine x_if_eq rfl (fun hc => ?_) (fun hc => ?_)
    · exact absurd hc hx
    · refine x_const rfl ?_
      refine x_goto rfl ?_
      refine x_callV3 rfl o2 (Nat.le_of_ble_eq_true rfl) ?_
      refine m_select (Or.inr rfl) hR1 hI.1 (fun μ2 hR2 => ?_)
      refine x_icmp_eq rfl (fun hc => ?_) (fun hc => ?_)
      · exact K μ2 _ ⟨hV1.fr2 hR2.f, hR2.self, hN.select⟩
      · exact absurd rfl hc
end La2
