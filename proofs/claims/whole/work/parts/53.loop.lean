/-! the law's loop, and the whole -/
section La3
variable {L : Nat} {xs : Nat → Int}
set_option maxRecDepth 20000 in
theorem law_loop (hL : L ≤ 2560) {ss : Nat} (hss : ss ≤ 20000) : ∀ (r t : Nat) (μ : Nat → Option am_C) (S : mv_T), t + r = 513 → lwS t μ S → am_Ex mv_P 6 (am_at (kL_law L xs)) (18, [some (.inr (some 0)), some (.inr (some 1)), some (.inr (some 50)), some (.inl ((5 * t : Nat) : Int))], [], 68, ss, μ) (fun r M => r = some (.inl 1) ∧ M.1 ≤ 600001 ∧ M.2.1 ≤ 7302250) := by
  intro r
  induction r with
  | zero =>
    intro t μ S ht h
    refine x_iload rfl rfl ?_
    refine x_aload rfl rfl ?_
    refine x_slen rfl ?_
    refine x_const rfl ?_
    refine x_isub rfl ⟨by omega, by omega⟩ ?_
    refine x_icmp_gt rfl (fun hc => ?_) (fun hc => ?_)
    · refine x_const rfl ?_
      refine x_zret rfl (by first | exact Or.inl rfl | exact Or.inr rfl | assumption | omega) ?_
      exact ⟨rfl, by show 68 ≤ 600001; omega, by show ss ≤ 7302250; omega⟩
    · exact absurd hc (by omega)
  | succ r ih =>
    intro t μ S ht h
    refine x_iload rfl rfl ?_
    refine x_aload rfl rfl ?_
    refine x_slen rfl ?_
    refine x_const rfl ?_
    refine x_isub rfl ⟨by omega, by omega⟩ ?_
    refine x_icmp_gt rfl (fun hc => ?_) (fun hc => ?_)
    · refine x_const rfl ?_
      refine x_zret rfl (by first | exact Or.inl rfl | exact Or.inr rfl | assumption | omega) ?_
      exact ⟨rfl, by show 68 ≤ 600001; omega, by show ss ≤ 7302250; omega⟩
    · have hi : 5 * t + 5 ≤ L := by omega
      have K : ∀ (μ' : Nat → Option am_C) (S' : mv_T), lwS (t + 1) μ' S' → am_Ex mv_P 6 (am_at (kL_law L xs)) (720, [some (.inr (some 0)), some (.inr (some 1)), some (.inr (some 50)), some (.inl ((5 * t : Nat) : Int))], [], 68, ss, μ') (fun r M => r = some (.inl 1) ∧ M.1 ≤ 600001 ∧ M.2.1 ≤ 7302250) := by
        intro μ' S' h'
        refine x_iinc rfl rfl ⟨by omega, by omega⟩ ?_
        refine x_goto rfl ?_
        rw [show ((5 * t : Nat) : Int) + 5 = ((5 * (t + 1) : Nat) : Int) by omega]
        exact ih (t + 1) μ' S' (by omega) h'
      refine x_aload rfl rfl ?_
      refine x_iload rfl rfl ?_
      refine x_sld rfl (by omega) (by omega) ?_
      refine x_const rfl ?_
      refine x_iand rfl ?_
      refine x_tsw rfl ?_
      generalize am_and (xs (((5 * t : Nat) : Int)).toNat) 31 = v
      have hv : v = 0 ∨ v = 1 ∨ v = 2 ∨ v = 3 ∨ v = 4 ∨ v = 5 ∨ v = 6 ∨ v = 7 ∨ v = 8 ∨ v = 9 ∨ v = 10 ∨ v = 11 ∨ v = 12 ∨ v = 13 ∨ v = 14 ∨ v = 15 ∨ v = 16 ∨ v = 17 ∨ ¬ (0 ≤ v ∧ v < 18) := by omega
      rcases hv with hv | hv | hv | hv | hv | hv | hv | hv | hv | hv | hv | hv | hv | hv | hv | hv | hv | hv | hv
      · rw [hv]
        exact law_append h hi hL K
      · rw [hv]
        exact law_select h hi hL K
      · rw [hv]
        exact law_close h hi hL K
      · rw [hv]
        exact law_check h hi hL K
      · rw [hv]
        exact law_fetch h hi hL K
      · rw [hv]
        exact law_store h hi hL K
      · rw [hv]
        exact law_expunge h hi hL K
      · rw [hv]
        exact law_copy h hi hL K
      · rw [hv]
        exact law_criterion h hi hL K
      · rw [hv]
        exact law_search h hi hL K
      · rw [hv]
        exact law_found h hi hL K
      · rw [hv]
        exact law_sync h hi hL K
      · rw [hv]
        exact law_crash h hi hL K
      · rw [hv]
        exact law_message h hi hL K
      · rw [hv]
        exact law_seen h hi hL K
      · rw [hv]
        exact law_notice h hi hL K
      · rw [hv]
        exact law_mailbox h hi hL K
      · rw [hv]
        exact law_count h hi hL K
      · rw [ts_out (by simp only [List.length_cons, List.length_nil]; omega)]
        exact K μ S ⟨h.1, h.2.1, h.2.2.up⟩
set_option maxRecDepth 20000 in
theorem mv_pure_ok : mv_pure := by
  intro L xs hL hxs
  refine x_newG rfl (fun μ1 e1 f1 => ?_)
  refine x_dup rfl ?_
  refine x_callI0 rfl (Nat.le_of_ble_eq_true rfl) ?_
  refine c_V_init e1 (fun μ2 ss2 hV2 h2 => ?_)
  refine x_astore rfl (Nat.le_of_ble_eq_true rfl) ?_
  refine x_newG rfl (fun μ3 e3 f3 => ?_)
  refine x_dup rfl ?_
  refine x_callI0 rfl (Nat.le_of_ble_eq_true rfl) ?_
  refine c_M_init (μ0 := μ2) (fun x hx => f3 x (by omega)) e3 (fun μ4 ss4 hR4 h4 => ?_)
  refine x_astore rfl (Nat.le_of_ble_eq_true rfl) ?_
  refine x_const rfl ?_
  refine x_istore rfl (Nat.le_of_ble_eq_true rfl) ?_
  refine law_loop hL ?_ 513 0 μ4 mv_S0 rfl ⟨hV2.fr2 hR4.f, hR4.self, INV.zero⟩
  simp only [List.length_cons, List.length_nil] at h2 h4
  omega
end La3
