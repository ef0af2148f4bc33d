/-! the reference's calls against the model: the small ones -/
section R9
variable {d nn ss : Nat} {μ0 μ μ' : Nat → Option am_C} {Q : Option am_V → am_M → Prop} {g g' : Nat → Nat → Int} {S : mv_T}
theorem m_criterion {op a b : Int} (h : RR μ0 μ S) (hQ : ∀ μ', RR μ0 μ' (sp_criterion S op a b).2 → Q (some (.inl (sp_criterion S op a b).1)) (nn, ss, μ')) : am_Wp mv_P (d + 2) jM_criterion [.inr (some 50), .inl op, .inl a, .inl b] (nn, ss, μ) Q := by
  obtain ⟨g, hA⟩ := h
  obtain ⟨⟨h, hL, hB⟩, h2, h3, h4, h5⟩ := id hA
  have k14 := h4.1
  unfold sp_criterion at hQ
  refine am_wp pM_criterion (Nat.le_of_ble_eq_true rfl) ?_
  refine x_iload rfl rfl ?_
  refine x_const rfl ?_
  refine x_const rfl ?_
  refine x_callS3 rfl (Nat.le_of_ble_eq_true rfl) ?_
  refine c_M_in (fun hx => ?_) (fun hx => ?_)
  · rw [if_pos hx] at hQ
    refine x_if_ne rfl (fun hc => ?_) (fun hc => ?_)
    · refine x_aload rfl rfl ?_
      refine x_get rfl h.o rfl ?_
      refine x_const rfl ?_
      refine x_icmp_ne rfl (fun hc => ?_) (fun hc => ?_)
      · rw [if_neg (by omega)] at hQ
        refine x_aload rfl rfl ?_
        refine x_get rfl h.o rfl ?_
        refine x_const rfl ?_
        refine x_aload rfl rfl ?_
        refine x_get rfl h.o rfl ?_
        refine x_imul rfl ⟨by omega, by omega⟩ ?_
        refine x_iload rfl rfl ?_
        refine x_iastN (j := 3 * S.2.2.2.1.length) rfl h.a13 (by omega) (by omega) rfl (fun μ e o => ?_)
        replace h := h.st (j := 13) (Nat.le_of_ble_eq_true rfl) e o
        clear e o
        refine x_aload rfl rfl ?_
        refine x_get rfl h.o rfl ?_
        refine x_const rfl ?_
        refine x_aload rfl rfl ?_
        refine x_get rfl h.o rfl ?_
        refine x_imul rfl ⟨by omega, by omega⟩ ?_
        refine x_const rfl ?_
        refine x_iadd rfl ⟨by omega, by omega⟩ ?_
        refine x_iload rfl rfl ?_
        refine x_iastN (j := 3 * S.2.2.2.1.length + 1) rfl h.a13 (by omega) (by omega) rfl (fun μ e o => ?_)
        replace h := h.st (j := 13) (Nat.le_of_ble_eq_true rfl) e o
        clear e o
        refine x_aload rfl rfl ?_
        refine x_get rfl h.o rfl ?_
        refine x_const rfl ?_
        refine x_aload rfl rfl ?_
        refine x_get rfl h.o rfl ?_
        refine x_imul rfl ⟨by omega, by omega⟩ ?_
        refine x_const rfl ?_
        refine x_iadd rfl ⟨by omega, by omega⟩ ?_
        refine x_iload rfl rfl ?_
        refine x_iastN (j := 3 * S.2.2.2.1.length + 2) rfl h.a13 (by omega) (by omega) rfl (fun μ e o => ?_)
        replace h := h.st (j := 13) (Nat.le_of_ble_eq_true rfl) e o
        clear e o
        generalize hG : am_fu _ 13 (am_fu _ (3 * S.2.2.2.1.length + 2) b) = G at h
        have e0 : G 13 = am_fu (am_fu (am_fu (g 13) (3 * S.2.2.2.1.length) op) (3 * S.2.2.2.1.length + 1) a) (3 * S.2.2.2.1.length + 2) b := by
          rw [← hG]
          rfl
        have eo : ∀ j, j ≠ 13 → G j = g j := by
          intro j hj
          rw [← hG, am_fu_n hj, am_fu_n hj, am_fu_n hj]
        have hlen : (S.2.2.2.1 ++ [(op, a, b)]).length = S.2.2.2.1.length + 1 := by rw [List.length_append]; rfl
        refine x_aload rfl rfl ?_
        refine x_dup rfl ?_
        refine x_get rfl h.o rfl ?_
        refine x_const rfl ?_
        refine x_iadd rfl ⟨by omega, by omega⟩ ?_
        refine x_putG rfl h.o (Nat.le_of_ble_eq_true rfl) rfl (fun μ e o => ?_)
        replace h := h.pt e o
        clear e o
        refine x_aload rfl rfl ?_
        refine x_get rfl h.o rfl ?_
        refine x_iret rfl ?_
        refine hQ _ ⟨G, ⟨?_, hL.cg (eo 0 (by decide)), hB.cg (eo 1 (by decide)) (eo 2 (by decide)) (eo 3 (by decide))⟩, fun m hm => by rw [eo 4 (by decide)]; exact h2 m hm, fun s hs => (h3 s hs).cg (fun j _ _ => eo j (by omega)), ⟨?_, fun k hk => ?_⟩, h5.cg (eo 14 (by decide))⟩
        · show mR μ0 _ G S.1.1.length S.1.2 ((S.2.2.2.1 ++ [(op, a, b)]).length : Nat) _
          rw [hlen]
          exact h
        · show (S.2.2.2.1 ++ [(op, a, b)]).length ≤ 14
          omega
        · have hk : k < (S.2.2.2.1 ++ [(op, a, b)]).length := hk
          rw [hlen] at hk
          show _ = (mg (S.2.2.2.1 ++ [(op, a, b)]) k).1 ∧ _ = (mg (S.2.2.2.1 ++ [(op, a, b)]) k).2.1 ∧ _ = (mg (S.2.2.2.1 ++ [(op, a, b)]) k).2.2
          rw [mg_app, e0]
          by_cases hk2 : k < S.2.2.2.1.length
          · rw [if_pos hk2, am_fu_n (by omega), am_fu_n (by omega), am_fu_n (by omega), am_fu_n (by omega), am_fu_n (by omega), am_fu_n (by omega), am_fu_n (by omega), am_fu_n (by omega), am_fu_n (by omega)]
            exact h4.2 k hk2
          · have ek : k = S.2.2.2.1.length := by omega
            rw [if_neg hk2, if_pos ek, ek, am_fu_n (by omega), am_fu_n (by omega), am_fu_s, am_fu_n (by omega), am_fu_s, am_fu_s]
            exact ⟨rfl, rfl, rfl⟩
      · rw [if_pos (by omega)] at hQ
        refine x_const rfl ?_
        refine x_iret rfl ?_
        exact hQ μ ⟨g, hA⟩
    · exact absurd (by decide) hc
  · rw [if_neg hx] at hQ
    refine x_if_ne rfl (fun hc => ?_) (fun hc => ?_)
    · exact absurd rfl hc
    · refine x_const rfl ?_
      refine x_iret rfl ?_
      exact hQ μ ⟨g, hA⟩
theorem m_found {k : Int} (h : RR μ0 μ S) (hQ : Q (some (.inl (sp_found S k))) (nn, ss, μ)) : am_Wp mv_P (d + 2) jM_found [.inr (some 50), .inl k] (nn, ss, μ) Q := by
  obtain ⟨g, ⟨⟨h, hL, hB⟩, h2, h3, h4, h5⟩⟩ := h
  have f24 := h5.1
  unfold sp_found at hQ
  refine am_wp pM_found (Nat.le_of_ble_eq_true rfl) ?_
  refine x_iload rfl rfl ?_
  refine x_const rfl ?_
  refine x_aload rfl rfl ?_
  refine x_get rfl h.o rfl ?_
  refine x_const rfl ?_
  refine x_isub rfl ⟨by omega, by omega⟩ ?_
  refine x_callS3 rfl (Nat.le_of_ble_eq_true rfl) ?_
  refine c_M_in (fun hx => ?_) (fun hx => ?_)
  · rw [if_pos ⟨by omega, by omega⟩] at hQ
    refine x_if_eq rfl (fun hc => ?_) (fun hc => ?_)
    · exact absurd hc (by decide)
    · refine x_aload rfl rfl ?_
      refine x_get rfl h.o rfl ?_
      refine x_iload rfl rfl ?_
      refine x_rd (j := k.toNat) rfl h.a14 (by omega) (by omega) (h5.2 _ (by omega)) ?_
      refine x_goto rfl ?_
      refine x_iret rfl ?_
      exact hQ
  · rw [if_neg (by omega)] at hQ
    refine x_if_eq rfl (fun hc => ?_) (fun hc => ?_)
    · refine x_const rfl ?_
      refine x_iret rfl ?_
      exact hQ
    · exact absurd rfl hc
theorem m_sync (h : RR μ0 μ S) (hQ : ∀ μ', RR μ0 μ' (sp_sync S) → Q (some (.inl S.1.1.length)) (nn, ss, μ')) : am_Wp mv_P (d + 1) jM_sync [.inr (some 50)] (nn, ss, μ) Q := by
  obtain ⟨g, ⟨⟨h, hL, hB⟩, h2, h3, h4, h5⟩⟩ := h
  refine am_wp pM_sync (Nat.le_of_ble_eq_true rfl) ?_
  refine x_aload rfl rfl ?_
  refine x_aload rfl rfl ?_
  refine x_get rfl h.o rfl ?_
  refine x_putG rfl h.o (Nat.le_of_ble_eq_true rfl) rfl (fun μ e o => ?_)
  replace h := h.pt e o
  clear e o
  refine x_aload rfl rfl ?_
  refine x_get rfl h.o rfl ?_
  refine x_iret rfl ?_
  exact hQ _ ⟨g, ⟨⟨h, hL, hB⟩, h2, h3, h4, h5⟩⟩
theorem m_message {m k w : Int} (h : RR μ0 μ S) (hI : LI S.1.1 S.1.2) (hQ : Q (some (.inl (sp_message S m k w))) (nn, ss, μ)) : am_Wp mv_P (d + 2) jM_message [.inr (some 50), .inl m, .inl k, .inl w] (nn, ss, μ) Q := by
  obtain ⟨g, ⟨⟨h, hL, hB⟩, h2, h3, h4, h5⟩⟩ := h
  unfold sp_message at hQ
  have bad : sp_message S m k w = -1 → am_Ex mv_P (d + 1) (am_at kM_message) (34, [some (.inr (some 50)), some (.inl m), some (.inl k), some (.inl w)], [], nn, ss, μ) Q := by
    intro hb
    unfold sp_message at hb
    rw [hb] at hQ
    refine x_const rfl ?_
    refine x_iret rfl ?_
    exact hQ
  unfold sp_message at bad
  refine am_wp pM_message (Nat.le_of_ble_eq_true rfl) ?_
  refine x_iload rfl rfl ?_
  refine x_const rfl ?_
  refine x_const rfl ?_
  refine x_callS3 rfl (Nat.le_of_ble_eq_true rfl) ?_
  refine c_M_in (fun hx => ?_) (fun hx => ?_)
  · obtain ⟨b1, b2, b3⟩ := hB m.toNat (by omega)
    have b1 : g 1 m.toNat = ((rp S.1.1 m.toNat).1.length : Int) := b1
    have hw := (hI.wb m.toNat).2.1
    refine x_if_eq rfl (fun hc => ?_) (fun hc => ?_)
    · exact absurd hc (by decide)
    · refine x_iload rfl rfl ?_
      refine x_const rfl ?_
      refine x_aload rfl rfl ?_
      refine x_get rfl h.o rfl ?_
      refine x_iload rfl rfl ?_
      refine x_rd (j := m.toNat) rfl h.a1 (by omega) (by omega) (b1) ?_
      refine x_const rfl ?_
      refine x_isub rfl ⟨by omega, by omega⟩ ?_
      refine x_callS3 rfl (Nat.le_of_ble_eq_true rfl) ?_
      refine c_M_in (fun hy => ?_) (fun hy => ?_)
      · have q := b3 k.toNat (by show k.toNat < (rp S.1.1 m.toNat).1.length; omega)
        obtain ⟨q1, q2, q3⟩ := q
        refine x_if_eq rfl (fun hc => ?_) (fun hc => ?_)
        · exact absurd hc (by decide)
        · refine x_iload rfl rfl ?_
          refine x_const rfl ?_
          refine x_const rfl ?_
          refine x_callS3 rfl (Nat.le_of_ble_eq_true rfl) ?_
          refine c_M_in (fun hz => ?_) (fun hz => ?_)
          · rw [if_pos ⟨by omega, by omega⟩] at hQ
            refine x_if_ne rfl (fun hc => ?_) (fun hc => ?_)
            · have hw3 : w = 0 ∨ w = 1 ∨ w = 2 := by omega
              rcases hw3 with e | e | e
              · rw [if_pos e] at hQ
                refine x_aload rfl rfl ?_
                refine x_get rfl h.o rfl ?_
                refine x_const rfl ?_
                refine x_iload rfl rfl ?_
                refine x_imul rfl ⟨by omega, by omega⟩ ?_
                refine x_const rfl ?_
                refine x_iload rfl rfl ?_
                refine x_imul rfl ⟨by omega, by omega⟩ ?_
                refine x_iadd rfl ⟨by omega, by omega⟩ ?_
                refine x_iload rfl rfl ?_
                refine x_iadd rfl ⟨by omega, by omega⟩ ?_
                refine x_rd (j := 36 * m.toNat + 3 * k.toNat) rfl h.a2 (by omega) (by omega) (q1) ?_
                refine x_iret rfl ?_
                exact hQ
              · rw [if_neg (by omega), if_pos e] at hQ
                refine x_aload rfl rfl ?_
                refine x_get rfl h.o rfl ?_
                refine x_const rfl ?_
                refine x_iload rfl rfl ?_
                refine x_imul rfl ⟨by omega, by omega⟩ ?_
                refine x_const rfl ?_
                refine x_iload rfl rfl ?_
                refine x_imul rfl ⟨by omega, by omega⟩ ?_
                refine x_iadd rfl ⟨by omega, by omega⟩ ?_
                refine x_iload rfl rfl ?_
                refine x_iadd rfl ⟨by omega, by omega⟩ ?_
                refine x_rd (j := 36 * m.toNat + 3 * k.toNat + 1) rfl h.a2 (by omega) (by omega) (q2) ?_
                refine x_iret rfl ?_
                exact hQ
              · rw [if_neg (by omega), if_neg (by omega), if_pos e] at hQ
                refine x_aload rfl rfl ?_
                refine x_get rfl h.o rfl ?_
                refine x_const rfl ?_
                refine x_iload rfl rfl ?_
                refine x_imul rfl ⟨by omega, by omega⟩ ?_
                refine x_const rfl ?_
                refine x_iload rfl rfl ?_
                refine x_imul rfl ⟨by omega, by omega⟩ ?_
                refine x_iadd rfl ⟨by omega, by omega⟩ ?_
                refine x_iload rfl rfl ?_
                refine x_iadd rfl ⟨by omega, by omega⟩ ?_
                refine x_rd (j := 36 * m.toNat + 3 * k.toNat + 2) rfl h.a2 (by omega) (by omega) (q3) ?_
                refine x_iret rfl ?_
                exact hQ
            · exact absurd (by decide) hc
          · refine x_if_ne rfl (fun hc => ?_) (fun hc => ?_)
            · exact absurd rfl hc
            · refine bad ?_
              rw [if_pos ⟨by omega, by omega⟩, if_neg (by omega), if_neg (by omega), if_neg (by omega)]
      · refine x_if_eq rfl (fun hc => ?_) (fun hc => ?_)
        · exact bad (if_neg (by omega))
        · exact absurd rfl hc
  · refine x_if_eq rfl (fun hc => ?_) (fun hc => ?_)
    · exact bad (if_neg (by omega))
    · exact absurd rfl hc
theorem m_seen {s n w : Int} (h : RR μ0 μ S) (hQ : Q (some (.inl (sp_seen S s n w))) (nn, ss, μ)) : am_Wp mv_P (d + 4) jM_seen [.inr (some 50), .inl s, .inl n, .inl w] (nn, ss, μ) Q := by
  obtain ⟨g, ⟨⟨h, hL, hB⟩, h2, h3, h4, h5⟩⟩ := h
  unfold sp_seen vws at hQ
  have bad : sp_seen S s n w = -1 → am_Ex mv_P (d + 3) (am_at kM_seen) (18, [some (.inr (some 50)), some (.inl s), some (.inl n), some (.inl w)], [], nn, ss, μ) Q := by
    intro hb
    unfold sp_seen vws at hb
    rw [hb] at hQ
    refine x_const rfl ?_
    refine x_iret rfl ?_
    exact hQ
  unfold sp_seen at bad
  refine am_wp pM_seen (Nat.le_of_ble_eq_true rfl) ?_
  refine x_aload rfl rfl ?_
  refine x_iload rfl rfl ?_
  refine x_iload rfl rfl ?_
  refine x_callV2 rfl h.o (Nat.le_of_ble_eq_true rfl) ?_
  refine c_M_bad h h3 (fun hx => ?_) (fun hx => ?_)
  · refine x_if_ne rfl (fun hc => ?_) (fun hc => ?_)
    · exact bad (if_neg hx)
    · exact absurd (by decide) hc
  · obtain ⟨e1, e2, e3, e4, e5, e6, e7, e8, e9, e10⟩ := hx.1.rs h3
    have hn := hx.2
    have v24 := e9.1.2
    have en : n = ((n.toNat - 1 : Nat) : Int) + 1 := by omega
    refine x_if_ne rfl (fun hc => ?_) (fun hc => ?_)
    · exact absurd rfl hc
    · refine x_iload rfl rfl ?_
      refine x_const rfl ?_
      refine x_const rfl ?_
      refine x_callS3 rfl (Nat.le_of_ble_eq_true rfl) ?_
      refine c_M_in (fun hz => ?_) (fun hz => ?_)
      · rw [if_pos hx] at hQ
        refine x_if_ne rfl (fun hc => ?_) (fun hc => ?_)
        · refine x_iload rfl rfl ?_
          refine x_if_ne rfl (fun hc => ?_) (fun hc => ?_)
          · rw [if_neg hc, if_pos (by omega)] at hQ
            refine x_aload rfl rfl ?_
            refine x_get rfl h.o rfl ?_
            refine x_const rfl ?_
            refine x_iload rfl rfl ?_
            refine x_imul rfl ⟨by omega, by omega⟩ ?_
            refine x_iload rfl rfl ?_
            refine x_iadd rfl ⟨by omega, by omega⟩ ?_
            refine x_const rfl ?_
            refine x_isub rfl ⟨by omega, by omega⟩ ?_
            refine x_rd (j := 24 * s.toNat + (n.toNat - 1)) rfl h.a9 (by omega) (by omega) ((e9.2 _ (by omega)).2) ?_
            refine x_iret rfl ?_
            exact hQ
          · rw [if_pos (by omega)] at hQ
            refine x_aload rfl rfl ?_
            refine x_iload rfl rfl ?_
            refine x_iload rfl rfl ?_
            refine x_callV2 rfl h.o (Nat.le_of_ble_eq_true rfl) ?_
            rw [e2]
            refine c_M_uidOf h e1 e9 (k := n.toNat - 1) (by omega) en ?_
            refine x_goto rfl ?_
            refine x_iret rfl ?_
            exact hQ
        · exact absurd (by decide) hc
      · refine x_if_ne rfl (fun hc => ?_) (fun hc => ?_)
        · exact absurd rfl hc
        · refine bad ?_
          rw [if_pos hx, if_neg (by omega), if_neg (by omega)]
theorem m_notice {s k w : Int} (h : RR μ0 μ S) (hQ : Q (some (.inl (sp_notice S s k w))) (nn, ss, μ)) : am_Wp mv_P (d + 3) jM_notice [.inr (some 50), .inl s, .inl k, .inl w] (nn, ss, μ) Q := by
  obtain ⟨g, ⟨⟨h, hL, hB⟩, h2, h3, h4, h5⟩⟩ := h
  unfold sp_notice at hQ
  have bad : sp_notice S s k w = -1 → am_Ex mv_P (d + 2) (am_at kM_notice) (33, [some (.inr (some 50)), some (.inl s), some (.inl k), some (.inl w)], [], nn, ss, μ) Q := by
    intro hb
    unfold sp_notice at hb
    rw [hb] at hQ
    refine x_const rfl ?_
    refine x_iret rfl ?_
    exact hQ
  unfold sp_notice at bad
  refine am_wp pM_notice (Nat.le_of_ble_eq_true rfl) ?_
  refine x_aload rfl rfl ?_
  refine x_iload rfl rfl ?_
  refine x_callV1 rfl h.o (Nat.le_of_ble_eq_true rfl) ?_
  refine c_M_none h h3 (fun hx => ?_) (fun hx => ?_)
  · refine x_if_ne rfl (fun hc => ?_) (fun hc => ?_)
    · exact bad (if_neg (fun q => hx q.1))
    · exact absurd (by decide) hc
  · obtain ⟨e1, e2, e3, e4, e5, e6, e7, e8, e9, e10⟩ := hx.rs h3
    have n49 := e10.1.2
    refine x_if_ne rfl (fun hc => ?_) (fun hc => ?_)
    · exact absurd rfl hc
    · refine x_iload rfl rfl ?_
      refine x_const rfl ?_
      refine x_aload rfl rfl ?_
      refine x_get rfl h.o rfl ?_
      refine x_iload rfl rfl ?_
      refine x_rd (j := s.toNat) rfl h.a11 (by omega) (by omega) (e10.1.1) ?_
      refine x_const rfl ?_
      refine x_isub rfl ⟨by omega, by omega⟩ ?_
      refine x_callS3 rfl (Nat.le_of_ble_eq_true rfl) ?_
      refine c_M_in (fun hy => ?_) (fun hy => ?_)
      · obtain ⟨q1, q2⟩ := e10.2 k.toNat (by omega)
        refine x_if_eq rfl (fun hc => ?_) (fun hc => ?_)
        · exact absurd hc (by decide)
        · refine x_iload rfl rfl ?_
          refine x_const rfl ?_
          refine x_const rfl ?_
          refine x_callS3 rfl (Nat.le_of_ble_eq_true rfl) ?_
          refine c_M_in (fun hz => ?_) (fun hz => ?_)
          · rw [if_pos ⟨hx, by omega, by omega⟩] at hQ
            refine x_if_ne rfl (fun hc => ?_) (fun hc => ?_)
            · have hw3 : w = 0 ∨ w = 1 := by omega
              rcases hw3 with e | e
              · rw [if_pos e] at hQ
                refine x_aload rfl rfl ?_
                refine x_get rfl h.o rfl ?_
                refine x_const rfl ?_
                refine x_iload rfl rfl ?_
                refine x_imul rfl ⟨by omega, by omega⟩ ?_
                refine x_const rfl ?_
                refine x_iload rfl rfl ?_
                refine x_imul rfl ⟨by omega, by omega⟩ ?_
                refine x_iadd rfl ⟨by omega, by omega⟩ ?_
                refine x_iload rfl rfl ?_
                refine x_iadd rfl ⟨by omega, by omega⟩ ?_
                refine x_rd (j := 100 * s.toNat + 2 * k.toNat) rfl h.a12 (by omega) (by omega) (q1) ?_
                refine x_iret rfl ?_
                exact hQ
              · rw [if_neg (by omega), if_pos e] at hQ
                refine x_aload rfl rfl ?_
                refine x_get rfl h.o rfl ?_
                refine x_const rfl ?_
                refine x_iload rfl rfl ?_
                refine x_imul rfl ⟨by omega, by omega⟩ ?_
                refine x_const rfl ?_
                refine x_iload rfl rfl ?_
                refine x_imul rfl ⟨by omega, by omega⟩ ?_
                refine x_iadd rfl ⟨by omega, by omega⟩ ?_
                refine x_iload rfl rfl ?_
                refine x_iadd rfl ⟨by omega, by omega⟩ ?_
                refine x_rd (j := 100 * s.toNat + 2 * k.toNat + 1) rfl h.a12 (by omega) (by omega) (q2) ?_
                refine x_iret rfl ?_
                exact hQ
            · exact absurd (by decide) hc
          · refine x_if_ne rfl (fun hc => ?_) (fun hc => ?_)
            · exact absurd rfl hc
            · refine bad ?_
              rw [if_pos ⟨hx, by omega, by omega⟩, if_neg (by omega), if_neg (by omega)]
      · refine x_if_eq rfl (fun hc => ?_) (fun hc => ?_)
        · exact bad (if_neg (fun q => hy (by have := q.2; omega)))
        · exact absurd rfl hc
def cpS (ses : Nat → mv_S) (x : Int) : Nat → Int
  | 0 => 0
  | i + 1 => cpS ses x i + (if (ses i).1 = x then 1 else 0)
theorem cpS_b (ses : Nat → mv_S) (x : Int) : ∀ i, 0 ≤ cpS ses x i ∧ cpS ses x i ≤ i := by
  intro i
  induction i with
  | zero => exact ⟨Int.le_refl _, Int.le_refl _⟩
  | succ i ih =>
    show 0 ≤ cpS ses x i + (if (ses i).1 = x then 1 else 0) ∧ cpS ses x i + (if (ses i).1 = x then 1 else 0) ≤ ((i + 1 : Nat) : Int)
    split <;> omega
theorem cpS_4 (ses : Nat → mv_S) (x : Int) : cpS ses x 4 = cnS ses x := by
  unfold cnS
  show (((0 + (if (ses 0).1 = x then (1 : Int) else 0)) + (if (ses 1).1 = x then 1 else 0)) + (if (ses 2).1 = x then 1 else 0)) + (if (ses 3).1 = x then 1 else 0) = _
  omega
theorem m_mailbox {m w : Int} (h : RR μ0 μ S) (hQ : Q (some (.inl (sp_mailbox S m w))) (nn, ss, μ)) : am_Wp mv_P (d + 2) jM_mailbox [.inr (some 50), .inl m, .inl w] (nn, ss, μ) Q := by
  obtain ⟨g, ⟨⟨h, hL, hB⟩, h2, h3, h4, h5⟩⟩ := h
  unfold sp_mailbox at hQ
  have bad : sp_mailbox S m w = -1 → am_Ex mv_P (d + 1) (am_at kM_mailbox) (18, [some (.inr (some 50)), some (.inl m), some (.inl w), none, none], [], nn, ss, μ) Q := by
    intro hb
    unfold sp_mailbox at hb
    rw [hb] at hQ
    refine x_const rfl ?_
    refine x_iret rfl ?_
    exact hQ
  unfold sp_mailbox at bad
  refine am_wp pM_mailbox (Nat.le_of_ble_eq_true rfl) ?_
  refine x_iload rfl rfl ?_
  refine x_const rfl ?_
  refine x_const rfl ?_
  refine x_callS3 rfl (Nat.le_of_ble_eq_true rfl) ?_
  refine c_M_in (fun hx => ?_) (fun hx => ?_)
  · obtain ⟨b1, b2, b3⟩ := hB m.toNat (by omega)
    refine x_if_eq rfl (fun hc => ?_) (fun hc => ?_)
    · exact absurd hc (by decide)
    · refine x_iload rfl rfl ?_
      refine x_const rfl ?_
      refine x_const rfl ?_
      refine x_callS3 rfl (Nat.le_of_ble_eq_true rfl) ?_
      refine c_M_in (fun hy => ?_) (fun hy => ?_)
      · rw [if_pos (by omega)] at hQ
        refine x_if_ne rfl (fun hc => ?_) (fun hc => ?_)
        · refine x_iload rfl rfl ?_
          refine x_if_ne rfl (fun hc => ?_) (fun hc => ?_)
          · rw [if_neg hc] at hQ
            refine x_iload rfl rfl ?_
            refine x_const rfl ?_
            refine x_icmp_ge rfl (fun hc => ?_) (fun hc => ?_)
            · rw [if_neg (by omega), if_neg (by omega), if_pos (by omega), ← cpS_4] at hQ
              have loop : ∀ (r i : Nat), i + r = 4 → am_Ex mv_P (d + 1) (am_at kM_mailbox) (62, [some (.inr (some 50)), some (.inl m), some (.inl w), some (.inl (cpS S.2.2.1 m i)), some (.inl (i : Int))], [], nn, ss, μ) Q := by
                intro r
                induction r with
                | zero =>
                  intro i hi
                  have ei : i = 4 := by omega
                  subst ei
                  refine x_iload rfl rfl ?_
                  refine x_const rfl ?_
                  refine x_icmp_ge rfl (fun hc => ?_) (fun hc => ?_)
                  · refine x_iload rfl rfl ?_
                    refine x_iret rfl ?_
                    exact hQ
                  · exact absurd hc (by decide)
                | succ r ih =>
                  intro i hi
                  have hb := cpS_b S.2.2.1 m i
                  have := ih (i + 1) (by omega)
                  have es : cpS S.2.2.1 m (i + 1) = cpS S.2.2.1 m i + (if (S.2.2.1 i).1 = m then 1 else 0) := rfl
                  rw [es] at this
                  refine x_iload rfl rfl ?_
                  refine x_const rfl ?_
                  refine x_icmp_ge rfl (fun hc => ?_) (fun hc => ?_)
                  · exact absurd hc (by omega)
                  · refine x_aload rfl rfl ?_
                    refine x_get rfl h.o rfl ?_
                    refine x_iload rfl rfl ?_
                    refine x_rd (j := i) rfl h.a5 (by omega) (by omega) ((h3 i (by omega)).1) ?_
                    refine x_iload rfl rfl ?_
                    refine x_icmp_ne rfl (fun hc => ?_) (fun hc => ?_)
                    · refine x_iinc rfl rfl ⟨by omega, by omega⟩ ?_
                      refine x_goto rfl ?_
                      rw [if_neg hc, show cpS S.2.2.1 m i + 0 = cpS S.2.2.1 m i by omega] at this
                      exact this
                    · refine x_iinc rfl rfl ⟨by omega, by omega⟩ ?_
                      refine x_iinc rfl rfl ⟨by omega, by omega⟩ ?_
                      refine x_goto rfl ?_
                      rw [if_pos (Classical.not_not.mp hc)] at this
                      exact this
              refine x_const rfl ?_
              refine x_istore rfl (Nat.le_of_ble_eq_true rfl) ?_
              refine x_const rfl ?_
              refine x_istore rfl (Nat.le_of_ble_eq_true rfl) ?_
              exact loop 4 0 rfl
            · refine x_iload rfl rfl ?_
              refine x_const rfl ?_
              refine x_icmp_ne rfl (fun hc => ?_) (fun hc => ?_)
              · rw [if_neg (by omega), if_pos (by omega)] at hQ
                refine x_aload rfl rfl ?_
                refine x_get rfl h.o rfl ?_
                refine x_iload rfl rfl ?_
                refine x_rd (j := m.toNat) rfl h.a4 (by omega) (by omega) (h2 m.toNat (by omega)) ?_
                refine x_iret rfl ?_
                exact hQ
              · rw [if_pos (by omega)] at hQ
                refine x_aload rfl rfl ?_
                refine x_get rfl h.o rfl ?_
                refine x_iload rfl rfl ?_
                refine x_rd (j := m.toNat) rfl h.a3 (by omega) (by omega) (b2) ?_
                refine x_goto rfl ?_
                refine x_iret rfl ?_
                exact hQ
          · rw [if_pos (by omega)] at hQ
            refine x_aload rfl rfl ?_
            refine x_get rfl h.o rfl ?_
            refine x_iload rfl rfl ?_
            refine x_rd (j := m.toNat) rfl h.a1 (by omega) (by omega) (b1) ?_
            refine x_iret rfl ?_
            exact hQ
        · exact absurd (by decide) hc
      · refine x_if_ne rfl (fun hc => ?_) (fun hc => ?_)
        · exact absurd rfl hc
        · refine bad ?_
          rw [if_pos (by omega), if_neg (by omega), if_neg (by omega), if_neg (by omega), if_neg (by omega)]
  · refine x_if_eq rfl (fun hc => ?_) (fun hc => ?_)
    · exact bad (if_neg (by omega))
    · exact absurd rfl hc
theorem m_count {w : Int} (h : RR μ0 μ S) (hQ : Q (some (.inl (sp_count S w))) (nn, ss, μ)) : am_Wp mv_P (d + 2) jM_count [.inr (some 50), .inl w] (nn, ss, μ) Q := by
  obtain ⟨g, ⟨⟨h, hL, hB⟩, h2, h3, h4, h5⟩⟩ := h
  unfold sp_count at hQ
  refine am_wp pM_count (Nat.le_of_ble_eq_true rfl) ?_
  refine x_iload rfl rfl ?_
  refine x_const rfl ?_
  refine x_const rfl ?_
  refine x_callS3 rfl (Nat.le_of_ble_eq_true rfl) ?_
  refine c_M_in (fun hx => ?_) (fun hx => ?_)
  · refine x_if_eq rfl (fun hc => ?_) (fun hc => ?_)
    · exact absurd hc (by decide)
    · refine x_iload rfl rfl ?_
      refine x_if_ne rfl (fun hc => ?_) (fun hc => ?_)
      · rw [if_neg hc, if_pos (by omega)] at hQ
        refine x_aload rfl rfl ?_
        refine x_get rfl h.o rfl ?_
        refine x_iret rfl ?_
        exact hQ
      · rw [if_pos (by omega)] at hQ
        refine x_aload rfl rfl ?_
        refine x_get rfl h.o rfl ?_
        refine x_goto rfl ?_
        refine x_iret rfl ?_
        exact hQ
  · rw [if_neg (by omega), if_neg (by omega)] at hQ
    refine x_if_eq rfl (fun hc => ?_) (fun hc => ?_)
    · refine x_iload rfl rfl ?_
      refine x_const rfl ?_
      refine x_icmp_ne rfl (fun hc => ?_) (fun hc => ?_)
      · rw [if_neg hc] at hQ
        refine x_iload rfl rfl ?_
        refine x_const rfl ?_
        refine x_icmp_ne rfl (fun hc => ?_) (fun hc => ?_)
        · rw [if_neg hc] at hQ
          refine x_const rfl ?_
          refine x_iret rfl ?_
          exact hQ
        · rw [if_pos (by omega)] at hQ
          refine x_aload rfl rfl ?_
          refine x_get rfl h.o rfl ?_
          refine x_goto rfl ?_
          refine x_iret rfl ?_
          exact hQ
      · rw [if_pos (by omega)] at hQ
        refine x_aload rfl rfl ?_
        refine x_get rfl h.o rfl ?_
        refine x_goto rfl ?_
        refine x_iret rfl ?_
        exact hQ
    · exact absurd rfl hc
end R9
