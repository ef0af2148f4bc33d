/-! the reference's calls against the model: store, expunge, copy -/
section R8
variable {d nn ss : Nat} {μ0 μ μ' : Nat → Option am_C} {Q : Option am_V → am_M → Prop} {g g' : Nat → Nat → Int} {S : mv_T}
theorem m_store {s n mode f : Int} (h : RR μ0 μ S) (hI : LI S.1.1 S.1.2) (hl : S.1.1.length < 1500) (hQ : ∀ μ', RR μ0 μ' (sp_store S s n mode f).2 → Q (some (.inl (sp_store S s n mode f).1)) (nn, ss, μ')) : am_Wp mv_P (d + 5) jM_store [.inr (some 50), .inl s, .inl n, .inl mode, .inl f] (nn, ss, μ) Q := by
  obtain ⟨g, hA⟩ := h
  obtain ⟨⟨h, hL, hB⟩, h2, h3, h4, h5⟩ := id hA
  unfold sp_store at hQ
  have bad : ¬ ((0 ≤ mode ∧ mode ≤ 2) ∧ (0 ≤ f ∧ f ≤ 31) ∧ inV S.2.2.1 s n) → am_Ex mv_P (d + 4) (am_at kM_store) (29, [some (.inr (some 50)), some (.inl s), some (.inl n), some (.inl mode), some (.inl f), none, none, none], [], nn, ss, μ) Q := by
    intro hb
    rw [if_neg hb] at hQ
    refine x_const rfl ?_
    refine x_iret rfl ?_
    exact hQ μ ⟨g, hA⟩
  refine am_wp pM_store (Nat.le_of_ble_eq_true rfl) ?_
  refine x_aload rfl rfl ?_
  refine x_iload rfl rfl ?_
  refine x_iload rfl rfl ?_
  refine x_callV2 rfl h.o (Nat.le_of_ble_eq_true rfl) ?_
  refine c_M_bad h h3 (fun hx => ?_) (fun hx => ?_)
  · refine x_if_ne rfl (fun hc => ?_) (fun hc => ?_)
    · exact bad (fun q => hx q.2.2)
    · exact absurd (by decide) hc
  · refine x_if_ne rfl (fun hc => ?_) (fun hc => ?_)
    · exact absurd rfl hc
    · refine x_iload rfl rfl ?_
      refine x_const rfl ?_
      refine x_const rfl ?_
      refine x_callS3 rfl (Nat.le_of_ble_eq_true rfl) ?_
      refine c_M_in (fun hm => ?_) (fun hm => ?_)
      · refine x_if_eq rfl (fun hc => ?_) (fun hc => ?_)
        · exact absurd hc (by decide)
        · refine x_iload rfl rfl ?_
          refine x_const rfl ?_
          refine x_const rfl ?_
          refine x_callS3 rfl (Nat.le_of_ble_eq_true rfl) ?_
          refine c_M_in (fun hf => ?_) (fun hf => ?_)
          · refine x_if_ne rfl (fun hc => ?_) (fun hc => ?_)
            · obtain ⟨e1, e2, e3, e4, e5, e6, e7, e8, e9, e10⟩ := hx.1.rs h3
              have hn := hx.2
              have v24 := e9.1.2
              rw [if_pos ⟨hm, hf, hx⟩] at hQ
              have hw := (hI.wb (S.2.2.1 s.toNat).1.toNat).2.1
              have en : n = ((n.toNat - 1 : Nat) : Int) + 1 := by omega
              refine x_aload rfl rfl ?_
              refine x_get rfl h.o rfl ?_
              refine x_iload rfl rfl ?_
              refine x_rd (j := s.toNat) rfl h.a6 (by omega) (by omega) (e6) ?_
              refine x_if_eq rfl (fun hc => ?_) (fun hc => ?_)
              · rw [if_pos hc] at hQ
                refine x_aload rfl rfl ?_
                refine x_iload rfl rfl ?_
                refine x_iload rfl rfl ?_
                refine x_callV2 rfl h.o (Nat.le_of_ble_eq_true rfl) ?_
                rw [e2]
                refine c_M_gone h hB e1 e5 e4 hw e9 (k := n.toNat - 1) (by omega) en (fun hu => ?_) (fun hu => ?_)
                · have hu' : ¬ fp (bxs S s.toNat).1 (vg (vws S s.toNat) (n.toNat - 1)).1 < (bxs S s.toNat).1.length := hu
                  rw [if_neg hu'] at hQ
                  refine x_if_eq rfl (fun hc => ?_) (fun hc => ?_)
                  · exact absurd hc (by decide)
                  · refine x_const rfl ?_
                    refine x_iret rfl ?_
                    exact hQ μ ⟨g, hA⟩
                · have hu' : fp (bxs S s.toNat).1 (vg (vws S s.toNat) (n.toNat - 1)).1 < (bxs S s.toNat).1.length := hu
                  rw [if_pos hu'] at hQ
                  have tail : am_Ex mv_P (d + 4) (am_at kM_store) (106, [some (.inr (some 50)), some (.inl (s.toNat : Int)), some (.inl n), some (.inl mode), some (.inl f), some (.inl (vg (vws S s.toNat) (n.toNat - 1)).1), some (.inl (mg (bxs S s.toNat).1 (fp (bxs S s.toNat).1 (vg (vws S s.toNat) (n.toNat - 1)).1)).2.1), none], [.inl (stF S s n mode f)], nn, ss, μ) Q := by
                    have ec : ((3 : Int), (((S.2.2.1 s.toNat).1.toNat : Nat) : Int), (vg (vws S s.toNat) (n.toNat - 1)).1, stF S s n mode f, (0 : Int)) = (3, (S.2.2.1 s.toNat).1, (vg (vws S s.toNat) (n.toNat - 1)).1, stF S s n mode f, 0) := by rw [← e3]
                    have hvc : vc ((3 : Int), (((S.2.2.1 s.toNat).1.toNat : Nat) : Int), (vg (vws S s.toNat) (n.toNat - 1)).1, stF S s n mode f, (0 : Int)) (rp S.1.1 (S.2.2.1 s.toNat).1.toNat) := Or.inr ⟨Or.inr rfl, hu⟩
                    have hLI := LI_nt (lg := S.1.1) (du := S.1.2) (c := ((3 : Int), (((S.2.2.1 s.toNat).1.toNat : Nat) : Int), (vg (vws S s.toNat) (n.toNat - 1)).1, stF S s n mode f, (0 : Int))) hI (by simp only; omega) hvc (by omega)
                    refine x_istore rfl (Nat.le_of_ble_eq_true rfl) ?_
                    refine x_aload rfl rfl ?_
                    refine x_const rfl ?_
                    refine x_aload rfl rfl ?_
                    refine x_get rfl h.o rfl ?_
                    refine x_iload rfl rfl ?_
                    refine x_rd (j := s.toNat) rfl h.a5 (by omega) (by omega) (e5) ?_
                    refine x_iload rfl rfl ?_
                    refine x_iload rfl rfl ?_
                    refine x_const rfl ?_
                    refine x_callV5 rfl h.o (Nat.le_of_ble_eq_true rfl) ?_
                    refine c_M_note (lg := S.1.1) (du := S.1.2) hA.1 hI (by omega) e4 hvc (fun μ1 g1 hM Go => ?_)
                    rw [ec] at hM hLI
                    have hA1 : RA μ0 μ1 g1 (nt S.1 (3, (S.2.2.1 s.toNat).1, (vg (vws S s.toNat) (n.toNat - 1)).1, stF S s n mode f, 0), S.2) := hA.lg hM Go
                    obtain ⟨⟨h, -⟩, -, h3', -⟩ := id hA1
                    have h3' : ∀ s, s < 4 → RS g1 s (S.2.2.1 s) := h3'
                    obtain ⟨f1, f2, f3, f4, f5, f6, f7, f8, f9, f10⟩ := hx.1.rs h3'
                    refine x_aload rfl rfl ?_
                    refine x_get rfl h.o rfl ?_
                    refine x_const rfl ?_
                    refine x_iload rfl rfl ?_
                    refine x_imul rfl ⟨by omega, by omega⟩ ?_
                    refine x_iload rfl rfl ?_
                    refine x_iadd rfl ⟨by omega, by omega⟩ ?_
                    refine x_const rfl ?_
                    refine x_isub rfl ⟨by omega, by omega⟩ ?_
                    refine x_iload rfl rfl ?_
                    refine x_iastN (j := 24 * s.toNat + (n.toNat - 1)) rfl h.a9 (by omega) (by omega) rfl (fun μ e o => ?_)
                    replace h := h.st (j := 9) (Nat.le_of_ble_eq_true rfl) e o
                    clear e o
                    have hA2 := hA1.se (s := s.toNat) (x := kn (S.2.2.1 s.toNat) (n.toNat - 1) (stF S s n mode f)) h (sF.rf.st (by omega) (pt_u (Or.inr rfl) (by omega))) ⟨(h3' s.toNat e1).1, by unfold kn; simp only; omega, by unfold kn; simp only; omega, fun _ => ⟨f6, f7, f8, f9.set (by omega) rfl rfl rfl, f10.cg rfl rfl⟩⟩
                    have hA2 : RA μ0 _ _ (stS S s n mode f) := hA2
                    refine x_aload rfl rfl ?_
                    refine x_iload rfl rfl ?_
                    refine x_const rfl ?_
                    refine x_callV2 rfl h.o (Nat.le_of_ble_eq_true rfl) ?_
                    have ex : (stS S s n mode f).2.2.1 s.toNat = kn (S.2.2.1 s.toNat) (n.toNat - 1) (stF S s n mode f) := vws_fu
                    refine hA2.upd hLI e1 (m := (S.2.2.1 s.toNat).1.toNat) (by rw [ex]; exact e3) e4 (fun μ3 g3 hA3 => ?_)
                    refine x_iload rfl rfl ?_
                    refine x_iret rfl ?_
                    exact hQ μ3 ⟨g3, hA3⟩
                  refine x_if_eq rfl (fun hc => ?_) (fun hc => ?_)
                  · refine x_aload rfl rfl ?_
                    refine x_iload rfl rfl ?_
                    refine x_iload rfl rfl ?_
                    refine x_callV2 rfl h.o (Nat.le_of_ble_eq_true rfl) ?_
                    refine c_M_uidOf h e1 e9 (k := n.toNat - 1) (by omega) en ?_
                    refine x_istore rfl (Nat.le_of_ble_eq_true rfl) ?_
                    refine x_aload rfl rfl ?_
                    refine x_aload rfl rfl ?_
                    refine x_get rfl h.o rfl ?_
                    refine x_iload rfl rfl ?_
                    refine x_rd (j := s.toNat) rfl h.a5 (by omega) (by omega) (e5) ?_
                    refine x_iload rfl rfl ?_
                    refine x_callV2 rfl h.o (Nat.le_of_ble_eq_true rfl) ?_
                    refine c_M_flagsOf h hB e4 hw hu ?_
                    unfold stF cfl at tail
                    refine x_istore rfl (Nat.le_of_ble_eq_true rfl) ?_
                    refine x_iload rfl rfl ?_
                    refine x_if_ne rfl (fun hc => ?_) (fun hc => ?_)
                    · refine x_iload rfl rfl ?_
                      refine x_const rfl ?_
                      refine x_icmp_ne rfl (fun hc => ?_) (fun hc => ?_)
                      · refine x_iload rfl rfl ?_
                        refine x_iload rfl rfl ?_
                        refine x_const rfl ?_
                        refine x_ixor rfl ?_
                        refine x_iand rfl ?_
                        rw [if_neg hc, if_pos (by omega)] at tail
                        exact tail
                      · refine x_iload rfl rfl ?_
                        refine x_iload rfl rfl ?_
                        refine x_ior rfl ?_
                        refine x_goto rfl ?_
                        rw [if_pos (by omega)] at tail
                        exact tail
                    · refine x_iload rfl rfl ?_
                      refine x_goto rfl ?_
                      rw [if_neg (by omega), if_neg (by omega)] at tail
                      exact tail
                  · exact absurd rfl hc
              · rw [if_neg hc] at hQ
                refine x_const rfl ?_
                refine x_iret rfl ?_
                exact hQ μ ⟨g, hA⟩
            · exact absurd (by decide) hc
          · refine x_if_ne rfl (fun hc => ?_) (fun hc => ?_)
            · exact absurd rfl hc
            · exact bad (fun q => hf q.2.1)
      · refine x_if_eq rfl (fun hc => ?_) (fun hc => ?_)
        · exact bad (fun q => hm q.1)
        · exact absurd rfl hc
theorem m_expunge {s : Int} (h : RR μ0 μ S) (hI : LI S.1.1 S.1.2) (hl : S.1.1.length < 1500) (hQ : ∀ μ', RR μ0 μ' (sp_expunge S s).2 → Q (some (.inl (sp_expunge S s).1)) (nn, ss, μ')) : am_Wp mv_P (d + 5) jM_expunge [.inr (some 50), .inl s] (nn, ss, μ) Q := by
  obtain ⟨g, hA⟩ := h
  obtain ⟨⟨h, hL, hB⟩, h2, h3, h4, h5⟩ := id hA
  unfold sp_expunge at hQ
  refine am_wp pM_expunge (Nat.le_of_ble_eq_true rfl) ?_
  refine x_aload rfl rfl ?_
  refine x_iload rfl rfl ?_
  refine x_callV1 rfl h.o (Nat.le_of_ble_eq_true rfl) ?_
  refine c_M_none h h3 (fun hx => ?_) (fun hx => ?_)
  · rw [if_neg hx] at hQ
    refine x_if_eq rfl (fun hc => ?_) (fun hc => ?_)
    · exact absurd hc (by decide)
    · refine x_const rfl ?_
      refine x_iret rfl ?_
      exact hQ μ ⟨g, hA⟩
  · obtain ⟨e1, e2, e3, e4, e5, e6, e7, e8, e9, e10⟩ := hx.rs h3
    have h12 := (hI.wb (S.2.2.1 s.toNat).1.toNat).2.1
    rw [if_pos hx] at hQ
    refine x_if_eq rfl (fun hc => ?_) (fun hc => ?_)
    · refine x_aload rfl rfl ?_
      refine x_get rfl h.o rfl ?_
      refine x_iload rfl rfl ?_
      refine x_rd (j := s.toNat) rfl h.a6 (by omega) (by omega) (e6) ?_
      refine x_if_eq rfl (fun hc => ?_) (fun hc => ?_)
      · rw [if_pos hc] at hQ
        refine x_aload rfl rfl ?_
        refine x_aload rfl rfl ?_
        refine x_get rfl h.o rfl ?_
        refine x_iload rfl rfl ?_
        refine x_rd (j := s.toNat) rfl h.a5 (by omega) (by omega) (e5) ?_
        refine x_callV1 rfl h.o (Nat.le_of_ble_eq_true rfl) ?_
        refine c_M_purge (lg := S.1.1) (du := S.1.2) hA.1 hI (by omega) e4 (fun μ1 g1 hM Go => ?_)
        have hA1 : RA μ0 μ1 g1 ((pgS S (S.2.2.1 s.toNat).1.toNat).1, S.2) := hA.lg hM Go
        obtain ⟨⟨h, -⟩, -⟩ := id hA1
        have hLI := (LI_pg e4 (rp S.1.1 (S.2.2.1 s.toNat).1.toNat).1.length S.1 0 0 hI (by omega) (by omega)).1
        refine x_istore rfl (Nat.le_of_ble_eq_true rfl) ?_
        refine x_aload rfl rfl ?_
        refine x_iload rfl rfl ?_
        refine x_const rfl ?_
        refine x_callV2 rfl h.o (Nat.le_of_ble_eq_true rfl) ?_
        rw [e2]
        refine hA1.upd hLI e1 e3 e4 (fun μ2 g2 hA2 => ?_)
        refine x_iload rfl rfl ?_
        refine x_iret rfl ?_
        exact hQ μ2 ⟨g2, hA2⟩
      · rw [if_neg hc] at hQ
        refine x_const rfl ?_
        refine x_iret rfl ?_
        exact hQ μ ⟨g, hA⟩
    · exact absurd rfl hc
theorem m_copy {s n m : Int} (h : RR μ0 μ S) (hI : LI S.1.1 S.1.2) (hl : S.1.1.length < 1500) (hQ : ∀ μ', RR μ0 μ' (sp_copy S s n m).2 → Q (some (.inl (sp_copy S s n m).1)) (nn, ss, μ')) : am_Wp mv_P (d + 5) jM_copy [.inr (some 50), .inl s, .inl n, .inl m] (nn, ss, μ) Q := by
  obtain ⟨g, hA⟩ := h
  obtain ⟨⟨h, hL, hB⟩, h2, h3, h4, h5⟩ := id hA
  unfold sp_copy at hQ
  have bad : ¬ ((0 ≤ m ∧ m < 3) ∧ inV S.2.2.1 s n) → am_Ex mv_P (d + 4) (am_at kM_copy) (18, [some (.inr (some 50)), some (.inl s), some (.inl n), some (.inl m), none, none], [], nn, ss, μ) Q := by
    intro hb
    rw [if_neg hb] at hQ
    refine x_const rfl ?_
    refine x_iret rfl ?_
    exact hQ μ ⟨g, hA⟩
  refine am_wp pM_copy (Nat.le_of_ble_eq_true rfl) ?_
  refine x_aload rfl rfl ?_
  refine x_iload rfl rfl ?_
  refine x_iload rfl rfl ?_
  refine x_callV2 rfl h.o (Nat.le_of_ble_eq_true rfl) ?_
  refine c_M_bad h h3 (fun hx => ?_) (fun hx => ?_)
  · refine x_if_ne rfl (fun hc => ?_) (fun hc => ?_)
    · exact bad (fun q => hx q.2)
    · exact absurd (by decide) hc
  · refine x_if_ne rfl (fun hc => ?_) (fun hc => ?_)
    · exact absurd rfl hc
    · refine x_iload rfl rfl ?_
      refine x_const rfl ?_
      refine x_const rfl ?_
      refine x_callS3 rfl (Nat.le_of_ble_eq_true rfl) ?_
      refine c_M_in (fun hm => ?_) (fun hm => ?_)
      · refine x_if_ne rfl (fun hc => ?_) (fun hc => ?_)
        · obtain ⟨e1, e2, e3, e4, e5, e6, e7, e8, e9, e10⟩ := hx.1.rs h3
          have hn := hx.2
          have v24 := e9.1.2
          rw [if_pos ⟨by omega, hx⟩] at hQ
          have hw := (hI.wb (S.2.2.1 s.toNat).1.toNat).2.1
          have en : n = ((n.toNat - 1 : Nat) : Int) + 1 := by omega
          refine x_aload rfl rfl ?_
          refine x_iload rfl rfl ?_
          refine x_iload rfl rfl ?_
          refine x_callV2 rfl h.o (Nat.le_of_ble_eq_true rfl) ?_
          rw [e2]
          refine c_M_gone h hB e1 e5 e4 hw e9 (k := n.toNat - 1) (by omega) en (fun hu => ?_) (fun hu => ?_)
          · have hu' : ¬ fp (bxs S s.toNat).1 (vg (vws S s.toNat) (n.toNat - 1)).1 < (bxs S s.toNat).1.length := hu
            rw [if_neg hu'] at hQ
            refine x_if_eq rfl (fun hc => ?_) (fun hc => ?_)
            · exact absurd hc (by decide)
            · refine x_const rfl ?_
              refine x_iret rfl ?_
              exact hQ μ ⟨g, hA⟩
          · have hu' : fp (bxs S s.toNat).1 (vg (vws S s.toNat) (n.toNat - 1)).1 < (bxs S s.toNat).1.length := hu
            rw [if_pos hu'] at hQ
            obtain ⟨b1, b2, b3⟩ := hB _ e4
            obtain ⟨q1, q2, q3⟩ := b3 _ hu
            have hx3 := (hI.wb m.toNat).2.2.1
            refine x_if_eq rfl (fun hc => ?_) (fun hc => ?_)
            · refine x_const rfl ?_
              refine x_aload rfl rfl ?_
              refine x_get rfl h.o rfl ?_
              refine x_iload rfl rfl ?_
              refine x_rd (j := s.toNat) rfl h.a5 (by omega) (by omega) (e5) ?_
              refine x_imul rfl ⟨by omega, by omega⟩ ?_
              refine x_const rfl ?_
              refine x_aload rfl rfl ?_
              refine x_aload rfl rfl ?_
              refine x_get rfl h.o rfl ?_
              refine x_iload rfl rfl ?_
              refine x_rd (j := s.toNat) rfl h.a5 (by omega) (by omega) (e5) ?_
              refine x_aload rfl rfl ?_
              refine x_iload rfl rfl ?_
              refine x_iload rfl rfl ?_
              refine x_callV2 rfl h.o (Nat.le_of_ble_eq_true rfl) ?_
              refine c_M_uidOf h e1 e9 (k := n.toNat - 1) (by omega) en ?_
              refine x_callV2 rfl h.o (Nat.le_of_ble_eq_true rfl) ?_
              refine c_M_place h hB e4 hw ?_
              rw [pz_in hu]
              refine x_imul rfl ⟨by omega, by omega⟩ ?_
              refine x_iadd rfl ⟨by omega, by omega⟩ ?_
              refine x_istore rfl (Nat.le_of_ble_eq_true rfl) ?_
              refine x_aload rfl rfl ?_
              refine x_iload rfl rfl ?_
              refine x_aload rfl rfl ?_
              refine x_get rfl h.o rfl ?_
              refine x_iload rfl rfl ?_
              refine x_const rfl ?_
              refine x_iadd rfl ⟨by omega, by omega⟩ ?_
              refine x_rd (j := 36 * (S.2.2.1 s.toNat).1.toNat + 3 * fp (rp S.1.1 (S.2.2.1 s.toNat).1.toNat).1 (vg (S.2.2.1 s.toNat).2.2.2.1 (n.toNat - 1)).1 + 1) rfl h.a2 (by omega) (by omega) (q2) ?_
              refine x_aload rfl rfl ?_
              refine x_get rfl h.o rfl ?_
              refine x_iload rfl rfl ?_
              refine x_const rfl ?_
              refine x_iadd rfl ⟨by omega, by omega⟩ ?_
              refine x_rd (j := 36 * (S.2.2.1 s.toNat).1.toNat + 3 * fp (rp S.1.1 (S.2.2.1 s.toNat).1.toNat).1 (vg (S.2.2.1 s.toNat).2.2.2.1 (n.toNat - 1)).1 + 2) rfl h.a2 (by omega) (by omega) (q3) ?_
              refine x_callV3 rfl h.o (Nat.le_of_ble_eq_true rfl) ?_
              rw [show m = ((m.toNat : Nat) : Int) by omega]
              refine c_M_add (lg := S.1.1) (du := S.1.2) hA.1 hI (by omega) (by omega) (fun h12 => ?_) (fun μ1 g1 h12 hM Go => ?_)
              · rw [if_pos h12] at hQ
                refine x_istore rfl (Nat.le_of_ble_eq_true rfl) ?_
                refine x_iload rfl rfl ?_
                refine x_if_le rfl (fun hc => ?_) (fun hc => ?_)
                · refine x_iload rfl rfl ?_
                  refine x_iret rfl ?_
                  exact hQ μ ⟨g, hA⟩
                · exact absurd hc (by decide)
              · rw [if_neg (by omega)] at hQ
                unfold sAdd at hQ
                rw [if_neg (by omega)] at hQ
                have hA1 := hA.lg hM Go
                obtain ⟨⟨h, -⟩, -⟩ := id hA1
                refine x_istore rfl (Nat.le_of_ble_eq_true rfl) ?_
                refine x_iload rfl rfl ?_
                refine x_if_le rfl (fun hc => ?_) (fun hc => ?_)
                · exact absurd hc (by omega)
                · refine x_aload rfl rfl ?_
                  refine x_iload rfl rfl ?_
                  refine x_const rfl ?_
                  refine x_callV2 rfl h.o (Nat.le_of_ble_eq_true rfl) ?_
                  refine hA1.upd (LI_nt (lg := S.1.1) (du := S.1.2) hI (by simp only; omega) (Or.inl ⟨rfl, rfl, h12⟩) (by omega)) e1 e3 e4 (fun μ2 g2 hA2 => ?_)
                  refine x_iload rfl rfl ?_
                  refine x_iret rfl ?_
                  exact hQ μ2 ⟨g2, hA2⟩
            · exact absurd rfl hc
        · exact absurd (by decide) hc
      · refine x_if_ne rfl (fun hc => ?_) (fun hc => ?_)
        · exact absurd rfl hc
        · exact bad (fun q => by have := q.1; omega)
end R8
