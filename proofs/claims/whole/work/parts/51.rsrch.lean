/-! the reference: search -/
section R13
variable {d nn ss : Nat} {μ0 μ μ' : Nat → Option am_C} {Q : Option am_V → am_M → Prop} {S : mv_T}
theorem m_search {s : Int} (h : RR μ0 μ S) (hI : LI S.1.1 S.1.2) (ho : ∀ k, k < S.2.2.2.1.length → 0 ≤ (mg S.2.2.2.1 k).1 ∧ (mg S.2.2.2.1 k).1 ≤ 8) (hQ : ∀ μ', RR μ0 μ' (sp_search S s).2 → Q (some (.inl (sp_search S s).1)) (nn, ss, μ')) : am_Wp mv_P (d + 5) jM_search [.inr (some 50), .inl s] (nn, ss, μ) Q := by
  obtain ⟨g, hA⟩ := h
  obtain ⟨⟨h, hL, hB⟩, h2, h3, h4, h5⟩ := id hA
  unfold sp_search at hQ
  refine am_wp pM_search (Nat.le_of_ble_eq_true rfl) ?_
  refine x_aload rfl rfl ?_
  refine x_iload rfl rfl ?_
  refine x_callV1 rfl h.o (Nat.le_of_ble_eq_true rfl) ?_
  refine c_M_none h h3 (fun hx => ?_) (fun hx => ?_)
  · rw [if_neg hx] at hQ
    refine x_if_eq rfl (fun hc => ?_) (fun hc => ?_)
    · exact absurd hc (by decide)
    · refine x_const rfl ?_
      refine x_iret rfl ?_
      exact hQ μ ⟨g, hA⟩
  · obtain ⟨e1, e2, e3, e4, e5, e6, e7, e8, e9, e10⟩ := hx.rs h3
    have hw := (hI.wb (S.2.2.1 s.toNat).1.toNat).2.1
    have v24 := e9.1.2
    rw [if_pos hx] at hQ
    refine x_if_eq rfl (fun hc => ?_) (fun hc => ?_)
    · refine x_aload rfl rfl ?_
      refine x_callV0 rfl h.o (Nat.le_of_ble_eq_true rfl) ?_
      refine c_M_good h h4 (fun μ1 g1 h Go1 => ?_)
      refine x_istore rfl (Nat.le_of_ble_eq_true rfl) ?_
      refine x_iload rfl rfl ?_
      refine x_if_eq rfl (fun hc => ?_) (fun hc => ?_)
      · -- not good
        have hng : ¬ gd S.2.2.2.1 := by
          intro q
          rw [if_pos q] at hc
          exact absurd hc (by decide)
        rw [if_neg hng] at hQ
        rw [if_neg hng]
        refine x_aload rfl rfl ?_
        refine x_const rfl ?_
        refine x_putG rfl h.o (Nat.le_of_ble_eq_true rfl) rfl (fun μ e o => ?_)
        replace h := h.pt e o
        clear e o
        refine x_iload rfl rfl ?_
        refine x_if_eq rfl (fun hc => ?_) (fun hc => ?_)
        · refine x_const rfl ?_
          refine x_iret rfl ?_
          refine hQ _ ⟨g1, ⟨h, hL.cg (Go1 0 (by decide)), hB.cg (Go1 1 (by decide)) (Go1 2 (by decide)) (Go1 3 (by decide))⟩, fun m hm => by rw [Go1 4 (by decide)]; exact h2 m hm, fun s hs => (h3 s hs).cg (fun j _ _ => Go1 j (by omega)), ⟨Nat.zero_le _, fun k hk => absurd hk (Nat.not_lt_zero _)⟩, h5.cg (Go1 14 (by decide))⟩
        · exact absurd rfl hc
      · have hg : gd S.2.2.2.1 := by
          by_cases q : gd S.2.2.2.1
          · exact q
          · rw [if_neg q] at hc
            exact absurd rfl hc
        rw [if_pos hg] at hQ
        rw [if_pos hg]
        have loop : ∀ (w kp : List mv_V) (fd : List Int) (μ : Nat → Option am_C) (G : Nat → Nat → Int), kp ++ w = (S.2.2.1 s.toNat).2.2.2.1 → fd.length ≤ kp.length → mR μ0 μ G S.1.1.length S.1.2 S.2.2.2.1.length fd.length → (∀ k, k < fd.length → G 14 k = fd.getD k 0) → fd ++ fh (rp S.1.1 (S.2.2.1 s.toNat).1.toNat).1 S.2.2.2.1 w kp.length = fdS S s.toNat → (∀ j, j ≠ 14 → j ≠ 15 → j ≠ 16 → G j = g j) → am_Ex mv_P (d + 4) (am_at kM_search) (26, [some (.inr (some 50)), some (.inl s), some (.inl 1), some (.inl ((kp.length : Int) + 1))], [], nn, ss, μ) Q := by
          intro w
          induction w with
          | nil =>
            intro kp fd μ G ekp hfl h hfd hfh Go
            rw [List.append_nil] at ekp
            have v0 : G 7 s.toNat = (kp.length : Int) := by
              rw [Go 7 (by decide) (by decide) (by decide), ekp]
              exact e9.1.1
            rw [show fh (rp S.1.1 (S.2.2.1 s.toNat).1.toNat).1 S.2.2.2.1 [] kp.length = [] from rfl, List.append_nil] at hfh
            rw [← hfh] at hQ
            have hkl : kp.length ≤ 24 := by rw [ekp]; exact v24
            have hA1 : RA μ0 μ G (setK S S.2.2.2.1 fd) := ⟨⟨h, hL.cg (Go 0 (by decide) (by decide) (by decide)), hB.cg (Go 1 (by decide) (by decide) (by decide)) (Go 2 (by decide) (by decide) (by decide)) (Go 3 (by decide) (by decide) (by decide))⟩, fun m hm => by rw [Go 4 (by decide) (by decide) (by decide)]; exact h2 m hm, fun s hs => (h3 s hs).cg (fun j _ _ => Go j (by omega) (by omega) (by omega)), h4.cg (Go 13 (by decide) (by decide) (by decide)), ⟨by show fd.length ≤ 24; omega, hfd⟩⟩
            refine x_iload rfl rfl ?_
            refine x_aload rfl rfl ?_
            refine x_get rfl h.o rfl ?_
            refine x_iload rfl rfl ?_
            refine x_rd (j := s.toNat) rfl h.a7 (by omega) (by omega) (v0) ?_
            refine x_icmp_gt rfl (fun hc => ?_) (fun hc => ?_)
            · refine x_aload rfl rfl ?_
              refine x_iload rfl rfl ?_
              refine x_const rfl ?_
              refine x_callV2 rfl h.o (Nat.le_of_ble_eq_true rfl) ?_
              rw [e2]
              refine hA1.upd hI e1 (m := (S.2.2.1 s.toNat).1.toNat) e3 e4 (fun μ2 g2 hA2 => ?_)
              obtain ⟨⟨h, hL2, hB2⟩, q2, q3, q4, q5⟩ := hA2
              have h : mR μ0 μ2 g2 S.1.1.length S.1.2 S.2.2.2.1.length fd.length := h
              refine x_aload rfl rfl ?_
              refine x_const rfl ?_
              refine x_putG rfl h.o (Nat.le_of_ble_eq_true rfl) rfl (fun μ e o => ?_)
              replace h := h.pt e o
              clear e o
              refine x_iload rfl rfl ?_
              refine x_if_eq rfl (fun hc => ?_) (fun hc => ?_)
              · exact absurd hc (by decide)
              · refine x_aload rfl rfl ?_
                refine x_get rfl h.o rfl ?_
                refine x_goto rfl ?_
                refine x_iret rfl ?_
                exact hQ _ ⟨g2, ⟨h, hL2, hB2⟩, q2, q3, ⟨Nat.zero_le _, fun k hk => absurd hk (Nat.not_lt_zero _)⟩, q5⟩
            · exact absurd hc (by omega)
          | cons y w ih =>
            intro kp fd μ G ekp hfl h hfd hfh Go
            have hlen : (S.2.2.1 s.toNat).2.2.2.1.length = kp.length + w.length + 1 := by rw [← ekp, List.length_append, List.length_cons]; omega
            have v0 : G 7 s.toNat = (kp.length : Int) + w.length + 1 := by
              rw [Go 7 (by decide) (by decide) (by decide), e9.1.1, hlen]
              omega
            have hv' : RV G s.toNat (kp ++ y :: w) := by
              rw [ekp]
              exact e9.cg (Go 7 (by decide) (by decide) (by decide)) (Go 8 (by decide) (by decide) (by decide)) (Go 9 (by decide) (by decide) (by decide))
            have hb' : RB G (rp S.1.1) := hB.cg (Go 1 (by decide) (by decide) (by decide)) (Go 2 (by decide) (by decide) (by decide)) (Go 3 (by decide) (by decide) (by decide))
            have hm' : G 5 s.toNat = (((S.2.2.1 s.toNat).1.toNat : Nat) : Int) := by
              rw [Go 5 (by decide) (by decide) (by decide)]
              exact e5
            have ekp2 : (kp ++ [y]) ++ w = (S.2.2.1 s.toNat).2.2.2.1 := by rw [List.append_assoc]; exact ekp
            have ekl : (kp ++ [y]).length = kp.length + 1 := by rw [List.length_append]; rfl
            have hll : (kp ++ y :: w).length = kp.length + w.length + 1 := by rw [List.length_append, List.length_cons]; omega
            have hfh : fd ++ (if fp (rp S.1.1 (S.2.2.1 s.toNat).1.toNat).1 y.1 < (rp S.1.1 (S.2.2.1 s.toNat).1.toNat).1.length ∧ ¬ tv S.2.2.2.1 (lfv (mg (rp S.1.1 (S.2.2.1 s.toNat).1.toNat).1 (fp (rp S.1.1 (S.2.2.1 s.toNat).1.toNat).1 y.1)) ((kp.length : Int) + 1)) 0 = 0 then ((kp.length : Int) + 1) :: fh (rp S.1.1 (S.2.2.1 s.toNat).1.toNat).1 S.2.2.2.1 w (kp.length + 1) else fh (rp S.1.1 (S.2.2.1 s.toNat).1.toNat).1 S.2.2.2.1 w (kp.length + 1)) = fdS S s.toNat := hfh
            have skip : ∀ (μ : Nat → Option am_C) (G : Nat → Nat → Int), mR μ0 μ G S.1.1.length S.1.2 S.2.2.2.1.length fd.length → (∀ k, k < fd.length → G 14 k = fd.getD k 0) → fd ++ fh (rp S.1.1 (S.2.2.1 s.toNat).1.toNat).1 S.2.2.2.1 w (kp.length + 1) = fdS S s.toNat → (∀ j, j ≠ 14 → j ≠ 15 → j ≠ 16 → G j = g j) → am_Ex mv_P (d + 4) (am_at kM_search) (77, [some (.inr (some 50)), some (.inl s), some (.inl 1), some (.inl ((kp.length : Int) + 1))], [], nn, ss, μ) Q := by
              intro μ G h hfd hfh Go
              refine x_iinc rfl rfl ⟨by omega, by omega⟩ ?_
              refine x_goto rfl ?_
              have := ih (kp ++ [y]) fd μ G ekp2 (by omega) h hfd (by rw [ekl]; exact hfh) Go
              rw [ekl] at this
              exact this
            refine x_iload rfl rfl ?_
            refine x_aload rfl rfl ?_
            refine x_get rfl h.o rfl ?_
            refine x_iload rfl rfl ?_
            refine x_rd (j := s.toNat) rfl h.a7 (by omega) (by omega) (v0) ?_
            refine x_icmp_gt rfl (fun hc => ?_) (fun hc => ?_)
            · exact absurd hc (by omega)
            · refine x_aload rfl rfl ?_
              refine x_iload rfl rfl ?_
              refine x_iload rfl rfl ?_
              refine x_callV2 rfl h.o (Nat.le_of_ble_eq_true rfl) ?_
              rw [e2]
              rw [e2] at skip
              simp only [Int.toNat_natCast] at skip
              refine c_M_gone h hb' e1 hm' e4 hw hv' (k := kp.length) (by omega) rfl (fun hu => ?_) (fun hu => ?_)
              · rw [vg_mid] at hu
                rw [if_neg (fun q => hu q.1)] at hfh
                refine x_if_ne rfl (fun hc => ?_) (fun hc => ?_)
                · exact skip μ G h hfd hfh Go
                · exact absurd (by decide) hc
              · refine x_if_ne rfl (fun hc => ?_) (fun hc => ?_)
                · exact absurd rfl hc
                · refine x_aload rfl rfl ?_
                  refine x_iload rfl rfl ?_
                  refine x_iload rfl rfl ?_
                  refine x_callV2 rfl h.o (Nat.le_of_ble_eq_true rfl) ?_
                  refine c_M_fulfils h hb' (h4.cg (Go 13 (by decide) (by decide) (by decide))) ho hg e1 hm' e4 hw hv' (k := kp.length) (by omega) rfl hu (fun μ2 g2 h Go2 => ?_)
                  rw [vg_mid] at hu ⊢
                  have hfd2 : ∀ k, k < fd.length → g2 14 k = fd.getD k 0 := fun k hk => by rw [Go2 14 (by decide)]; exact hfd k hk
                  have Go3 : ∀ j, j ≠ 14 → j ≠ 15 → j ≠ 16 → g2 j = g j := fun j h1 h2 h3 => by rw [Go2 j h2]; exact Go j h1 h2 h3
                  by_cases hz : tv S.2.2.2.1 (lfv (mg (rp S.1.1 (S.2.2.1 s.toNat).1.toNat).1 (fp (rp S.1.1 (S.2.2.1 s.toNat).1.toNat).1 y.1)) ((kp.length : Int) + 1)) 0 = 0
                  · rw [if_pos hz]
                    rw [if_neg (fun q => q.2 hz)] at hfh
                    refine x_if_ne rfl (fun hc => ?_) (fun hc => ?_)
                    · exact absurd rfl hc
                    · refine x_goto rfl ?_
                      exact skip μ2 g2 h hfd2 hfh Go3
                  · rw [if_neg hz]
                    rw [if_pos ⟨hu, hz⟩] at hfh
                    refine x_if_ne rfl (fun hc => ?_) (fun hc => ?_)
                    · refine x_aload rfl rfl ?_
                      refine x_get rfl h.o rfl ?_
                      refine x_aload rfl rfl ?_
                      refine x_get rfl h.o rfl ?_
                      refine x_iload rfl rfl ?_
                      refine x_iastN (j := fd.length) rfl h.a14 (by omega) (by omega) rfl (fun μ e o => ?_)
                      replace h := h.st (j := 14) (Nat.le_of_ble_eq_true rfl) e o
                      clear e o
                      refine x_aload rfl rfl ?_
                      refine x_dup rfl ?_
                      refine x_get rfl h.o rfl ?_
                      refine x_const rfl ?_
                      refine x_iadd rfl ⟨by omega, by omega⟩ ?_
                      refine x_putG rfl h.o (Nat.le_of_ble_eq_true rfl) rfl (fun μ e o => ?_)
                      replace h := h.pt e o
                      clear e o
                      refine x_iinc rfl rfl ⟨by omega, by omega⟩ ?_
                      refine x_goto rfl ?_
                      have hfl2 : (fd ++ [(kp.length : Int) + 1]).length = fd.length + 1 := by rw [List.length_append]; rfl
                      have := ih (kp ++ [y]) (fd ++ [(kp.length : Int) + 1]) _ _ ekp2 (by omega) (by rw [hfl2]; exact h) (fun k hk => ?_) (by rw [ekl, List.append_assoc]; exact hfh) (fun j h1 h2 h3 => by rw [am_fu_n h1]; exact Go3 j h1 h2 h3)
                      · rw [ekl, e2] at this
                        exact this
                      · rw [hfl2] at hk
                        show am_fu (g2 14) fd.length ((kp.length : Int) + 1) k = _
                        by_cases hk2 : k = fd.length
                        · rw [hk2, am_fu_s, List.getD_eq_getElem?_getD, List.getElem?_append_right (Nat.le_refl _), Nat.sub_self]
                          rfl
                        · rw [am_fu_n hk2, hfd2 k (by omega), List.getD_eq_getElem?_getD, List.getD_eq_getElem?_getD, List.getElem?_append_left (by omega)]
                    · exact absurd (by decide) hc
        refine x_aload rfl rfl ?_
        refine x_const rfl ?_
        refine x_putG rfl h.o (Nat.le_of_ble_eq_true rfl) rfl (fun μ e o => ?_)
        replace h := h.pt e o
        clear e o
        refine x_const rfl ?_
        refine x_istore rfl (Nat.le_of_ble_eq_true rfl) ?_
        exact loop (S.2.2.1 s.toNat).2.2.2.1 [] [] _ g1 rfl (Nat.le_refl _) h (fun k hk => absurd hk (Nat.not_lt_zero _)) rfl (fun j h1 h2 h3 => Go1 j h3)
    · exact absurd rfl hc
end R13
