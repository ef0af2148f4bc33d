/-! the class's other methods against the model -/
section V6
variable {d nn ss : Nat} {μ : Nat → Option am_C} {Q : Option am_V → am_M → Prop} {S : mv_T}
theorem vws_fu {s : Nat} {x : mv_S} {S : mv_T} : (setS S s x).2.2.1 s = x := by
  show am_fu _ _ _ _ = _
  rw [am_fu_s]
theorem v_leave {s : Nat} {S : mv_T} {μ : Nat → Option am_C} (h : VR μ S) (hs : s < 4) (hQ : ∀ μ', VR μ' (setS S s (lvS (S.2.2.1 s))) → fr μ μ' 1 50 → Q none (nn, ss, μ')) : am_Wp mv_P (d + 1) jS_leave [.inr (some (16 + 5 * s))] (nn, ss, μ) Q := by
  obtain ⟨E, hX, hj⟩ := h.VX
  obtain ⟨V, T, kA, k2, k3, k4, k5, k6⟩ := hX.2.2.2.1 s hs
  refine c_S_leave kA (fun μ1 hs1 hf1 => hQ μ1 ⟨E, hX.sess hs ⟨V, T, hs1, fun k hk => (by cases hk), fun k hk => (by cases hk), Nat.zero_le _, Nat.zero_le _, Or.inl rfl⟩ hf1, hj⟩ (hf1.wd (by omega) (by omega)))
theorem v_close {s : Int} (h : VR μ S) (hI : IC S) (hQ : ∀ μ', VR μ' (sp_close S s).2 → fr μ μ' 1 50 → Q (some (.inl (sp_close S s).1)) (nn, ss, μ')) : am_Wp mv_P (d + 5) jV_close [.inr (some 1), .inl s] (nn, ss, μ) Q := by
  obtain ⟨E, hX, hj⟩ := h.VX
  have hX' := hX
  obtain ⟨g1, ⟨⟨f0, g5, g6⟩, f1, g2, g3⟩, g7, g4, -⟩ := hX
  unfold voP at g1
  unfold sp_close at hQ
  refine am_wp pV_close (Nat.le_of_ble_eq_true rfl) ?_
  refine x_aload rfl rfl ?_
  refine x_iload rfl rfl ?_
  refine x_callV1 rfl (by assumption) (Nat.le_of_ble_eq_true rfl) ?_
  refine c_V_hasMailbox hX' (fun hs => ?_) (fun hs => ?_)
  · obtain ⟨e1, e2, e3, e4⟩ := hs.mb hI
    rw [if_pos hs] at hQ
    have k0 := g4 s.toNat e3
    obtain ⟨V, T, kA, k2, k3, k4, k5, k6⟩ := id k0
    refine x_if_ne rfl (fun hc => ?_) (fun hc => ?_)
    · refine x_aload rfl rfl ?_
      refine x_get rfl (by assumption) rfl ?_
      refine x_iload rfl rfl ?_
      refine x_aaldN (j := s.toNat) rfl (by assumption) (by omega) (by omega) ?_
      rw [g3 _ e3]
      refine x_astore rfl (Nat.le_of_ble_eq_true rfl) ?_
      refine x_aload rfl rfl ?_
      refine x_callV0 rfl kA.1 (Nat.le_of_ble_eq_true rfl) ?_
      refine c_S_isReadOnly kA k6 ?_
      refine x_if_eq rfl (fun hc => ?_) (fun hc => ?_)
      · rw [if_pos hc] at hQ
        refine x_aload rfl rfl ?_
        refine x_aload rfl rfl ?_
        refine x_callV0 rfl kA.1 (Nat.le_of_ble_eq_true rfl) ?_
        refine c_S_mailboxNumber kA ?_
        refine x_callV1 rfl (by assumption) (Nat.le_of_ble_eq_true rfl) ?_
        rw [e1]
        refine c_V_removeDeleted (lg := S.1.1) (du := S.1.2) h hI.1 (by have := hI.2.1; omega) e2 (fun μ1 hV1 hL1 hf1 => ?_)
        have h1 : VR μ1 ((pgS S (S.2.2.1 s.toNat).1.toNat).1, S.2) := hV1
        obtain ⟨E1, hX1, -⟩ := h1.VX
        obtain ⟨V1, T1, kA1, -⟩ := hX1.2.2.2.1 s.toNat e3
        refine x_istore rfl (Nat.le_of_ble_eq_true rfl) ?_
        refine x_aload rfl rfl ?_
        refine x_callV0 rfl kA1.1 (Nat.le_of_ble_eq_true rfl) ?_
        refine v_leave h1 e3 (fun μ2 h2 hf2 => ?_)
        refine x_iload rfl rfl ?_
        refine x_iret rfl ?_
        exact hQ μ2 h2 (hf1.tr hf2)
      · rw [if_neg hc] at hQ
        refine x_const rfl ?_
        refine x_goto rfl ?_
        refine x_istore rfl (Nat.le_of_ble_eq_true rfl) ?_
        refine x_aload rfl rfl ?_
        refine x_callV0 rfl kA.1 (Nat.le_of_ble_eq_true rfl) ?_
        refine v_leave h e3 (fun μ2 h2 hf2 => ?_)
        refine x_iload rfl rfl ?_
        refine x_iret rfl ?_
        exact hQ μ2 h2 hf2
    · exact absurd hc (by decide)
  · rw [if_neg hs] at hQ
    refine x_if_ne rfl (fun hc => ?_) (fun hc => ?_)
    · exact absurd rfl hc
    · refine x_const rfl ?_
      refine x_iret rfl ?_
      exact hQ μ h fr.rf
theorem v_expunge {s : Int} (h : VR μ S) (hI : IC S) (hQ : ∀ μ', VR μ' (sp_expunge S s).2 → fr μ μ' 1 50 → Q (some (.inl (sp_expunge S s).1)) (nn, ss, μ')) : am_Wp mv_P (d + 5) jV_expunge [.inr (some 1), .inl s] (nn, ss, μ) Q := by
  obtain ⟨E, hX, hj⟩ := h.VX
  have hX' := hX
  obtain ⟨g1, ⟨⟨f0, g5, g6⟩, f1, g2, g3⟩, g7, g4, -⟩ := hX
  unfold voP at g1
  unfold sp_expunge at hQ
  refine am_wp pV_expunge (Nat.le_of_ble_eq_true rfl) ?_
  refine x_aload rfl rfl ?_
  refine x_iload rfl rfl ?_
  refine x_callV1 rfl (by assumption) (Nat.le_of_ble_eq_true rfl) ?_
  refine c_V_hasMailbox hX' (fun hs => ?_) (fun hs => ?_)
  · obtain ⟨e1, e2, e3, e4⟩ := hs.mb hI
    rw [if_pos hs] at hQ
    have k0 := g4 s.toNat e3
    obtain ⟨V, T, kA, k2, k3, k4, k5, k6⟩ := id k0
    refine x_if_ne rfl (fun hc => ?_) (fun hc => ?_)
    · refine x_aload rfl rfl ?_
      refine x_get rfl (by assumption) rfl ?_
      refine x_iload rfl rfl ?_
      refine x_aaldN (j := s.toNat) rfl (by assumption) (by omega) (by omega) ?_
      rw [g3 _ e3]
      refine x_callV0 rfl kA.1 (Nat.le_of_ble_eq_true rfl) ?_
      refine c_S_isReadOnly kA k6 ?_
      refine x_if_eq rfl (fun hc => ?_) (fun hc => ?_)
      · rw [if_pos hc] at hQ
        refine x_aload rfl rfl ?_
        refine x_aload rfl rfl ?_
        refine x_get rfl (by assumption) rfl ?_
        refine x_iload rfl rfl ?_
        refine x_aaldN (j := s.toNat) rfl (by assumption) (by omega) (by omega) ?_
        rw [g3 _ e3]
        refine x_callV0 rfl kA.1 (Nat.le_of_ble_eq_true rfl) ?_
        refine c_S_mailboxNumber kA ?_
        refine x_callV1 rfl (by assumption) (Nat.le_of_ble_eq_true rfl) ?_
        rw [e1]
        refine c_V_removeDeleted (lg := S.1.1) (du := S.1.2) h hI.1 (by have := hI.2.1; omega) e2 (fun μ1 hV1 hL1 hf1 => ?_)
        have h1 : VR μ1 ((pgS S (S.2.2.1 s.toNat).1.toNat).1, S.2) := hV1
        obtain ⟨E1, hX1, -⟩ := h1.VX
        have o1 := hX1.1
        unfold voP at o1
        refine x_istore rfl (Nat.le_of_ble_eq_true rfl) ?_
        refine x_aload rfl rfl ?_
        refine x_iload rfl rfl ?_
        refine x_const rfl ?_
        refine x_callV2 rfl o1 (Nat.le_of_ble_eq_true rfl) ?_
        rw [e4]
        refine VR.upd h1 (m := (S.2.2.1 s.toNat).1.toNat) e3 e1 e2 (fun μ2 h2 hf2 => ?_)
        rw [← e4]
        refine x_iload rfl rfl ?_
        refine x_iret rfl ?_
        exact hQ μ2 h2 (hf1.tr hf2)
      · rw [if_neg hc] at hQ
        refine x_const rfl ?_
        refine x_iret rfl ?_
        exact hQ μ h fr.rf
    · exact absurd hc (by decide)
  · rw [if_neg hs] at hQ
    refine x_if_ne rfl (fun hc => ?_) (fun hc => ?_)
    · exact absurd rfl hc
    · refine x_const rfl ?_
      refine x_iret rfl ?_
      exact hQ μ h fr.rf
theorem pz_no {l : List mv_Q} {u : Int} (h : ¬ fp l u < l.length) : pz l u = -1 := by
  unfold pz
  rw [if_neg h]
theorem pz_yes {l : List mv_Q} {u : Int} (h : fp l u < l.length) : pz l u = (fp l u : Int) := by
  unfold pz
  rw [if_pos h]
theorem kn_se {μ' : Nat → Option am_C} {s k : Nat} {f : Int} {V T : Nat → mv_V} {x : mv_S} (hs : seA μ' (16 + 5 * s) (am_fu V k ((V k).1, f)) T x.2.2.2.1.length x.2.2.2.2.length x.1 x.2.1 x.2.2.1) (h2 : lL x.2.2.2.1 V) (h3 : lL x.2.2.2.2 T) (h4 : x.2.2.2.1.length ≤ 24) (h5 : x.2.2.2.2.length ≤ 49) (h6 : x.2.1 = 0 ∨ x.2.1 = 1) (hk : k < x.2.2.2.1.length) : seP μ' s (kn x k f) := by
  refine ⟨am_fu V k ((V k).1, f), T, ?_, ?_, h3, by show (x.2.2.2.1.set _ _).length ≤ 24; rw [List.length_set]; exact h4, h5, h6⟩
  · show seA _ _ _ _ (x.2.2.2.1.set _ _).length _ _ _ _
    rw [List.length_set]
    exact hs
  · intro j hj
    have hj : j < (x.2.2.2.1.set k ((vg x.2.2.2.1 k).1, f)).length := hj
    rw [List.length_set] at hj
    show _ = vg (x.2.2.2.1.set k ((vg x.2.2.2.1 k).1, f)) j
    rw [vg_set]
    by_cases hjk : j = k
    · rw [if_pos ⟨hjk, hk⟩, hjk, am_fu_s, h2 k hk]
    · rw [if_neg (fun q => hjk q.1), am_fu_n hjk]
      exact h2 j hj
theorem v_know {s k : Nat} {n f : Int} {S : mv_T} {μ : Nat → Option am_C} (h : VR μ S) (hs : s < 4) (hn : n = (k : Int) + 1) (hk : k < (vws S s).length) (hQ : ∀ μ', VR μ' (setS S s (kn (S.2.2.1 s) k f)) → fr μ μ' 1 50 → Q none (nn, ss, μ')) : am_Wp mv_P (d + 1) jS_know [.inr (some (16 + 5 * s)), .inl n, .inl f] (nn, ss, μ) Q := by
  obtain ⟨E, hX, hj⟩ := h.VX
  obtain ⟨V, T, kA, k2, k3, k4, k5, k6⟩ := hX.2.2.2.1 s hs
  have hk' : k < (S.2.2.1 s).2.2.2.1.length := hk
  refine c_S_know kA hn (by omega) (fun μ1 hs1 hf1 => hQ μ1 ⟨E, hX.sess hs (kn_se hs1 k2 k3 k4 k5 k6 hk') hf1, hj⟩ (hf1.wd (by omega) (by omega)))
theorem v_fetch {s n : Int} (h : VR μ S) (hI : IC S) (hQ : ∀ μ', VR μ' (sp_fetch S s n).2 → fr μ μ' 1 50 → Q (some (.inl (sp_fetch S s n).1)) (nn, ss, μ')) : am_Wp mv_P (d + 4) jV_fetch [.inr (some 1), .inl s, .inl n] (nn, ss, μ) Q := by
  obtain ⟨E, hX, hj⟩ := h.VX
  have hX' := hX
  obtain ⟨g1, ⟨⟨f0, g5, g6⟩, f1, g2, g3⟩, g7, g4, -⟩ := hX
  unfold voP at g1
  unfold sp_fetch at hQ
  refine am_wp pV_fetch (Nat.le_of_ble_eq_true rfl) ?_
  refine x_aload rfl rfl ?_
  refine x_iload rfl rfl ?_
  refine x_iload rfl rfl ?_
  refine x_callV2 rfl (by assumption) (Nat.le_of_ble_eq_true rfl) ?_
  refine c_V_isInView hX' (fun hs => ?_) (fun hs => ?_)
  · obtain ⟨e1, e2, e3, e4⟩ := hs.1.mb hI
    have hn := hs.2
    rw [if_pos hs] at hQ
    have k0 := g4 s.toNat e3
    obtain ⟨V, T, kA, k2, k3, k4, k5, k6⟩ := id k0
    have hk : n.toNat - 1 < (vws S s.toNat).length := by
      show n.toNat - 1 < (S.2.2.1 s.toNat).2.2.2.1.length
      omega
    have hk' : n.toNat - 1 < (S.2.2.1 s.toNat).2.2.2.1.length := hk
    have eV : V (n.toNat - 1) = vg (vws S s.toNat) (n.toNat - 1) := k2 _ hk
    have hb : bx μ (3 + 4 * (S.2.2.1 s.toNat).1.toNat) (bxs S s.toNat) _ := g7 _ e2
    obtain ⟨fs, hob⟩ := hb.ob
    refine x_if_ne rfl (fun hc => ?_) (fun hc => ?_)
    · refine x_aload rfl rfl ?_
      refine x_iload rfl rfl ?_
      refine x_callV1 rfl (by assumption) (Nat.le_of_ble_eq_true rfl) ?_
      rw [e4]
      refine c_V_mailboxOf hX' e3 e1 e2 ?_
      rw [← e4]
      refine x_astore rfl (Nat.le_of_ble_eq_true rfl) ?_
      refine x_aload rfl rfl ?_
      refine x_aload rfl rfl ?_
      refine x_get rfl (by assumption) rfl ?_
      refine x_iload rfl rfl ?_
      refine x_aaldN (j := s.toNat) rfl (by assumption) (by omega) (by omega) ?_
      rw [g3 _ e3]
      refine x_iload rfl rfl ?_
      refine x_callV1 rfl kA.1 (Nat.le_of_ble_eq_true rfl) ?_
      refine c_S_uidOf (k := n.toNat - 1) kA (by omega) (by omega) ?_
      rw [eV]
      refine x_callV1 rfl (by assumption) (Nat.le_of_ble_eq_true rfl) ?_
      refine d_B_positionOf hb ?_
      by_cases hfd : fp (bxs S s.toNat).1 (vg (vws S s.toNat) (n.toNat - 1)).1 < (bxs S s.toNat).1.length
      · rw [if_pos hfd] at hQ
        rw [pz_yes hfd]
        refine x_istore rfl (Nat.le_of_ble_eq_true rfl) ?_
        refine x_iload rfl rfl ?_
        refine x_const rfl ?_
        refine x_icmp_ne rfl (fun hc => ?_) (fun hc => ?_)
        · refine x_aload rfl rfl ?_
          refine x_get rfl (by assumption) rfl ?_
          refine x_iload rfl rfl ?_
          refine x_aaldN (j := s.toNat) rfl (by assumption) (by omega) (by omega) ?_
          rw [g3 _ e3]
          refine x_iload rfl rfl ?_
          refine x_aload rfl rfl ?_
          refine x_iload rfl rfl ?_
          refine x_callV1 rfl (by assumption) (Nat.le_of_ble_eq_true rfl) ?_
          refine d_B_flagsAt hb hfd ?_
          refine x_callV2 rfl kA.1 (Nat.le_of_ble_eq_true rfl) ?_
          refine v_know (k := n.toNat - 1) h e3 (by omega) hk (fun μ1 h1 hf1 => ?_)
          obtain ⟨E1, hX1, -⟩ := h1.VX
          have hb1 : bx μ1 (3 + 4 * (S.2.2.1 s.toNat).1.toNat) (bxs S s.toNat) _ := hX1.2.2.1 _ e2
          obtain ⟨fs1, hob1⟩ := hb1.ob
          refine x_aload rfl rfl ?_
          refine x_iload rfl rfl ?_
          refine x_callV1 rfl (by assumption) (Nat.le_of_ble_eq_true rfl) ?_
          refine d_B_flagsAt hb1 hfd ?_
          refine x_iret rfl ?_
          exact hQ μ1 h1 hf1
        · exact absurd hc (by omega)
      · rw [if_neg hfd] at hQ
        rw [pz_no hfd]
        refine x_istore rfl (Nat.le_of_ble_eq_true rfl) ?_
        refine x_iload rfl rfl ?_
        refine x_const rfl ?_
        refine x_icmp_ne rfl (fun hc => ?_) (fun hc => ?_)
        · exact absurd rfl hc
        · refine x_const rfl ?_
          refine x_iret rfl ?_
          exact hQ μ h fr.rf
    · exact absurd hc (by decide)
  · rw [if_neg hs] at hQ
    refine x_if_ne rfl (fun hc => ?_) (fun hc => ?_)
    · exact absurd rfl hc
    · refine x_const rfl ?_
      refine x_iret rfl ?_
      exact hQ μ h fr.rf
theorem v_copy {s n m : Int} (h : VR μ S) (hI : IC S) (hQ : ∀ μ', VR μ' (sp_copy S s n m).2 → fr μ μ' 1 50 → Q (some (.inl (sp_copy S s n m).1)) (nn, ss, μ')) : am_Wp mv_P (d + 5) jV_copy [.inr (some 1), .inl s, .inl n, .inl m] (nn, ss, μ) Q := by
  obtain ⟨E, hX, hj⟩ := h.VX
  have hX' := hX
  obtain ⟨g1, ⟨⟨f0, g5, g6⟩, f1, g2, g3⟩, g7, g4, -⟩ := hX
  unfold voP at g1
  unfold sp_copy at hQ
  refine am_wp pV_copy (Nat.le_of_ble_eq_true rfl) ?_
  refine x_iload rfl rfl ?_
  refine x_callS1 rfl (Nat.le_of_ble_eq_true rfl) ?_
  refine c_V_isMailbox (fun hm => ?_) (fun hm => ?_)
  · refine x_if_eq rfl (fun hc => ?_) (fun hc => ?_)
    · exact absurd hc (by decide)
    · refine x_aload rfl rfl ?_
      refine x_iload rfl rfl ?_
      refine x_iload rfl rfl ?_
      refine x_callV2 rfl (by assumption) (Nat.le_of_ble_eq_true rfl) ?_
      refine c_V_isInView hX' (fun hs => ?_) (fun hs => ?_)
      · obtain ⟨e1, e2, e3, e4⟩ := hs.1.mb hI
        have hn := hs.2
        rw [if_pos ⟨hm, hs⟩] at hQ
        have k0 := g4 s.toNat e3
        obtain ⟨V, T, kA, k2, k3, k4, k5, k6⟩ := id k0
        have hk : n.toNat - 1 < (vws S s.toNat).length := by
          show n.toNat - 1 < (S.2.2.1 s.toNat).2.2.2.1.length
          omega
        have hk' : n.toNat - 1 < (S.2.2.1 s.toNat).2.2.2.1.length := hk
        have eV : V (n.toNat - 1) = vg (vws S s.toNat) (n.toNat - 1) := k2 _ hk
        have hb : bx μ (3 + 4 * (S.2.2.1 s.toNat).1.toNat) (bxs S s.toNat) _ := g7 _ e2
        obtain ⟨fs, hob⟩ := hb.ob
        refine x_if_ne rfl (fun hc => ?_) (fun hc => ?_)
        · refine x_aload rfl rfl ?_
          refine x_iload rfl rfl ?_
          refine x_callV1 rfl (by assumption) (Nat.le_of_ble_eq_true rfl) ?_
          rw [e4]
          refine c_V_mailboxOf hX' e3 e1 e2 ?_
          rw [← e4]
          refine x_astore rfl (Nat.le_of_ble_eq_true rfl) ?_
          refine x_aload rfl rfl ?_
          refine x_aload rfl rfl ?_
          refine x_get rfl (by assumption) rfl ?_
          refine x_iload rfl rfl ?_
          refine x_aaldN (j := s.toNat) rfl (by assumption) (by omega) (by omega) ?_
          rw [g3 _ e3]
          refine x_iload rfl rfl ?_
          refine x_callV1 rfl kA.1 (Nat.le_of_ble_eq_true rfl) ?_
          refine c_S_uidOf (k := n.toNat - 1) kA (by omega) (by omega) ?_
          rw [eV]
          refine x_callV1 rfl (by assumption) (Nat.le_of_ble_eq_true rfl) ?_
          refine d_B_positionOf hb ?_
          by_cases hfd : fp (bxs S s.toNat).1 (vg (vws S s.toNat) (n.toNat - 1)).1 < (bxs S s.toNat).1.length
          · rw [if_pos hfd] at hQ
            rw [pz_yes hfd]
            refine x_istore rfl (Nat.le_of_ble_eq_true rfl) ?_
            refine x_iload rfl rfl ?_
            refine x_const rfl ?_
            refine x_icmp_ne rfl (fun hc => ?_) (fun hc => ?_)
            · refine x_aload rfl rfl ?_
              refine x_iload rfl rfl ?_
              refine x_aload rfl rfl ?_
              refine x_iload rfl rfl ?_
              refine x_callV1 rfl (by assumption) (Nat.le_of_ble_eq_true rfl) ?_
              refine d_B_flagsAt hb hfd ?_
              refine x_aload rfl rfl ?_
              refine x_iload rfl rfl ?_
              refine x_callV1 rfl (by assumption) (Nat.le_of_ble_eq_true rfl) ?_
              refine d_B_sizeAt hb hfd ?_
              refine x_callV3 rfl (by assumption) (Nat.le_of_ble_eq_true rfl) ?_
              rw [show m = ((m.toNat : Nat) : Int) by omega]
              refine c_V_add (lg := S.1.1) (du := S.1.2) h hI.1 (by omega) (fun h12 => ?_) (fun μ1 h12 hV hf1 => ?_)
              · rw [if_pos h12] at hQ
                refine x_istore rfl (Nat.le_of_ble_eq_true rfl) ?_
                refine x_iload rfl rfl ?_
                refine x_const rfl ?_
                refine x_icmp_ne rfl (fun hc => ?_) (fun hc => ?_)
                · exact absurd rfl hc
                · refine x_const rfl ?_
                  refine x_iret rfl ?_
                  exact hQ μ h fr.rf
              · have hnx := (hI.1.wb m.toNat).2.2.1
                rw [if_neg (by omega)] at hQ
                unfold sAdd at hQ
                rw [if_neg (by omega)] at hQ
                have h1 : VR μ1 (nt S.1 (1, (m.toNat : Int), (rp S.1.1 m.toNat).2, (mg (bxs S s.toNat).1 (fp (bxs S s.toNat).1 (vg (vws S s.toNat) (n.toNat - 1)).1)).2.1, (mg (bxs S s.toNat).1 (fp (bxs S s.toNat).1 (vg (vws S s.toNat) (n.toNat - 1)).1)).2.2), S.2) := hV
                obtain ⟨E1, hX1, -⟩ := h1.VX
                have o1 := hX1.1
                unfold voP at o1
                refine x_istore rfl (Nat.le_of_ble_eq_true rfl) ?_
                refine x_iload rfl rfl ?_
                refine x_const rfl ?_
                refine x_icmp_ne rfl (fun hc => ?_) (fun hc => ?_)
                · refine x_aload rfl rfl ?_
                  refine x_iload rfl rfl ?_
                  refine x_const rfl ?_
                  refine x_callV2 rfl o1 (Nat.le_of_ble_eq_true rfl) ?_
                  rw [e4]
                  refine VR.upd h1 (m := (S.2.2.1 s.toNat).1.toNat) e3 e1 e2 (fun μ2 h2 hf2 => ?_)
                  rw [← e4]
                  refine x_iload rfl rfl ?_
                  refine x_iret rfl ?_
                  exact hQ μ2 h2 (hf1.tr hf2)
                · exact absurd hc (by omega)
            · exact absurd hc (by omega)
          · rw [if_neg hfd] at hQ
            rw [pz_no hfd]
            refine x_istore rfl (Nat.le_of_ble_eq_true rfl) ?_
            refine x_iload rfl rfl ?_
            refine x_const rfl ?_
            refine x_icmp_ne rfl (fun hc => ?_) (fun hc => ?_)
            · exact absurd rfl hc
            · refine x_const rfl ?_
              refine x_iret rfl ?_
              exact hQ μ h fr.rf
        · exact absurd hc (by decide)
      · rw [if_neg (fun q => hs q.2)] at hQ
        refine x_if_ne rfl (fun hc => ?_) (fun hc => ?_)
        · exact absurd rfl hc
        · refine x_const rfl ?_
          refine x_iret rfl ?_
          exact hQ μ h fr.rf
  · rw [if_neg (fun q => hm q.1)] at hQ
    refine x_if_eq rfl (fun hc => ?_) (fun hc => ?_)
    · refine x_const rfl ?_
      refine x_iret rfl ?_
      exact hQ μ h fr.rf
    · exact absurd rfl hc
theorem v_store {s n mode f : Int} (h : VR μ S) (hI : IC S) (hQ : ∀ μ', VR μ' (sp_store S s n mode f).2 → fr μ μ' 1 50 → Q (some (.inl (sp_store S s n mode f).1)) (nn, ss, μ')) : am_Wp mv_P (d + 5) jV_store [.inr (some 1), .inl s, .inl n, .inl mode, .inl f] (nn, ss, μ) Q := by
  obtain ⟨E, hX, hj⟩ := h.VX
  have hX' := hX
  obtain ⟨g1, ⟨⟨f0, g5, g6⟩, f1, g2, g3⟩, g7, g4, -⟩ := hX
  unfold voP at g1
  unfold sp_store at hQ
  have bad : ¬ ((0 ≤ mode ∧ mode ≤ 2) ∧ (0 ≤ f ∧ f ≤ 31) ∧ inV S.2.2.1 s n) → am_Ex mv_P (d + 4) (am_at kV_store) (26, [some (.inr (some 1)), some (.inl s), some (.inl n), some (.inl mode), some (.inl f), none, none, none, none, none], [], nn, ss, μ) Q := by
    intro hb
    rw [if_neg hb] at hQ
    refine x_const rfl ?_
    refine x_iret rfl ?_
    exact hQ μ h fr.rf
  refine am_wp pV_store (Nat.le_of_ble_eq_true rfl) ?_
  refine x_iload rfl rfl ?_
  refine x_if_lt rfl (fun hc => ?_) (fun hc => ?_)
  · exact bad (fun q => by have := q.1; omega)
  · refine x_iload rfl rfl ?_
    refine x_const rfl ?_
    refine x_icmp_gt rfl (fun hc => ?_) (fun hc => ?_)
    · exact bad (fun q => by have := q.1; omega)
    · refine x_iload rfl rfl ?_
      refine x_callS1 rfl (Nat.le_of_ble_eq_true rfl) ?_
      have hmode : 0 ≤ mode ∧ mode ≤ 2 := by omega
      refine c_V_areFlags (fun hfl => ?_) (fun hfl => ?_)
      · refine x_if_eq rfl (fun hc => ?_) (fun hc => ?_)
        · exact absurd hc (by decide)
        · refine x_aload rfl rfl ?_
          refine x_iload rfl rfl ?_
          refine x_iload rfl rfl ?_
          refine x_callV2 rfl (by assumption) (Nat.le_of_ble_eq_true rfl) ?_
          refine c_V_isInView hX' (fun hs => ?_) (fun hs => ?_)
          · obtain ⟨e1, e2, e3, e4⟩ := hs.1.mb hI
            have hn := hs.2
            rw [if_pos ⟨hmode, hfl, hs⟩] at hQ
            have k0 := g4 s.toNat e3
            obtain ⟨V, T, kA, k2, k3, k4, k5, k6⟩ := id k0
            have hk : n.toNat - 1 < (vws S s.toNat).length := by
              show n.toNat - 1 < (S.2.2.1 s.toNat).2.2.2.1.length
              omega
            have hk' : n.toNat - 1 < (S.2.2.1 s.toNat).2.2.2.1.length := hk
            have eV : V (n.toNat - 1) = vg (vws S s.toNat) (n.toNat - 1) := k2 _ hk
            have hb : bx μ (3 + 4 * (S.2.2.1 s.toNat).1.toNat) (bxs S s.toNat) _ := g7 _ e2
            obtain ⟨fs, hob⟩ := hb.ob
            refine x_if_ne rfl (fun hc => ?_) (fun hc => ?_)
            · refine x_aload rfl rfl ?_
              refine x_get rfl (by assumption) rfl ?_
              refine x_iload rfl rfl ?_
              refine x_aaldN (j := s.toNat) rfl (by assumption) (by omega) (by omega) ?_
              rw [g3 _ e3]
              refine x_callV0 rfl kA.1 (Nat.le_of_ble_eq_true rfl) ?_
              refine c_S_isReadOnly kA k6 ?_
              refine x_if_eq rfl (fun hc => ?_) (fun hc => ?_)
              · rw [if_pos hc] at hQ
                refine x_aload rfl rfl ?_
                refine x_iload rfl rfl ?_
                refine x_callV1 rfl (by assumption) (Nat.le_of_ble_eq_true rfl) ?_
                rw [e4]
                refine c_V_mailboxOf hX' e3 e1 e2 ?_
                rw [← e4]
                refine x_astore rfl (Nat.le_of_ble_eq_true rfl) ?_
                refine x_aload rfl rfl ?_
                refine x_get rfl (by assumption) rfl ?_
                refine x_iload rfl rfl ?_
                refine x_aaldN (j := s.toNat) rfl (by assumption) (by omega) (by omega) ?_
                rw [g3 _ e3]
                refine x_iload rfl rfl ?_
                refine x_callV1 rfl kA.1 (Nat.le_of_ble_eq_true rfl) ?_
                refine c_S_uidOf (k := n.toNat - 1) kA (by omega) (by omega) ?_
                rw [eV]
                refine x_istore rfl (Nat.le_of_ble_eq_true rfl) ?_
                refine x_aload rfl rfl ?_
                refine x_iload rfl rfl ?_
                refine x_callV1 rfl (by assumption) (Nat.le_of_ble_eq_true rfl) ?_
                refine d_B_positionOf hb ?_
                by_cases hfd : fp (bxs S s.toNat).1 (vg (vws S s.toNat) (n.toNat - 1)).1 < (bxs S s.toNat).1.length
                · rw [if_pos hfd] at hQ
                  rw [pz_yes hfd]
                  refine x_istore rfl (Nat.le_of_ble_eq_true rfl) ?_
                  refine x_iload rfl rfl ?_
                  refine x_const rfl ?_
                  refine x_icmp_ne rfl (fun hc => ?_) (fun hc => ?_)
                  · refine x_aload rfl rfl ?_
                    refine x_iload rfl rfl ?_
                    refine x_callV1 rfl (by assumption) (Nat.le_of_ble_eq_true rfl) ?_
                    refine d_B_flagsAt hb hfd ?_
                    refine x_istore rfl (Nat.le_of_ble_eq_true rfl) ?_
                    refine x_iload rfl rfl ?_
                    refine x_iload rfl rfl ?_
                    refine x_iload rfl rfl ?_
                    refine x_callS3 rfl (Nat.le_of_ble_eq_true rfl) ?_
                    refine c_V_changedFlags ?_
                    refine x_istore rfl (Nat.le_of_ble_eq_true rfl) ?_
                    refine x_aload rfl rfl ?_
                    refine x_iload rfl rfl ?_
                    refine x_iload rfl rfl ?_
                    refine x_callV2 rfl (by assumption) (Nat.le_of_ble_eq_true rfl) ?_
                    have ecf : cfl (mg (bxs S s.toNat).1 (fp (bxs S s.toNat).1 (vg (vws S s.toNat) (n.toNat - 1)).1)).2.1 mode f = stF S s n mode f := rfl
                    rw [ecf]
                    refine d_B_setFlagsAt hb hfd (fun μ1 hb1 hf1 => ?_)
                    have hX1 := hX'.box e2 hb1 hf1
                    rw [am_fu_i] at hX1
                    obtain ⟨c, hcd⟩ : ∃ c : mv_H, c = (3, (S.2.2.1 s.toNat).1, (vg (vws S s.toNat) (n.toNat - 1)).1, stF S s n mode f, 0) := ⟨_, rfl⟩
                    have c21 : c.2.1.toNat = (S.2.2.1 s.toNat).1.toNat := by rw [hcd]
                    have eap : ((bxs S s.toNat).1.set (fp (bxs S s.toNat).1 (vg (vws S s.toNat) (n.toNat - 1)).1) ((mg (bxs S s.toNat).1 (fp (bxs S s.toNat).1 (vg (vws S s.toNat) (n.toNat - 1)).1)).1, stF S s n mode f, (mg (bxs S s.toNat).1 (fp (bxs S s.toNat).1 (vg (vws S s.toNat) (n.toNat - 1)).1)).2.2), (bxs S s.toNat).2) = ap c (bxs S s.toNat) := by
                      rw [hcd]
                      unfold ap
                      rw [if_neg (by simp), if_neg (by simp)]
                    have eB : am_fu (rp S.1.1) (S.2.2.1 s.toNat).1.toNat (ap c (bxs S s.toNat)) = rp (S.1.1 ++ [c]) := by
                      rw [rp_app]
                      unfold apS
                      rw [c21]
                      rfl
                    have eui : ui c (rp S.1.1 c.2.1.toNat) = (2, (S.2.2.1 s.toNat).1, (vg (vws S s.toNat) (n.toNat - 1)).1, (mg (bxs S s.toNat).1 (fp (bxs S s.toNat).1 (vg (vws S s.toNat) (n.toNat - 1)).1)).2.1, 0) := by
                      rw [c21, hcd]
                      unfold ui
                      rw [if_neg (by simp), if_neg (by simp)]
                      rfl
                    rw [eap, eB] at hX1
                    have hX1' := hX1
                    obtain ⟨q1, ⟨-, f2, q2, q3⟩, -, q4, q5, -⟩ := hX1
                    unfold voP at q1
                    obtain ⟨V1, T1, kA1, -⟩ := q4 s.toNat e3
                    obtain ⟨i1, i2, i3, i4⟩ := hI.1
                    have hl4 := hI.2.1
                    refine x_aload rfl rfl ?_
                    refine x_get rfl q1 rfl ?_
                    refine x_aload rfl rfl ?_
                    refine x_get rfl q1 rfl ?_
                    refine x_iload rfl rfl ?_
                    refine x_aaldN (j := s.toNat) rfl q2 (by omega) (by omega) ?_
                    rw [q3 _ e3]
                    refine x_callV0 rfl kA1.1 (Nat.le_of_ble_eq_true rfl) ?_
                    refine c_S_mailboxNumber kA1 ?_
                    refine x_iload rfl rfl ?_
                    refine x_iload rfl rfl ?_
                    refine x_callV3 rfl q5.1 (Nat.le_of_ble_eq_true rfl) ?_
                    refine c_J_noteFlagsSet q5 (by omega) (by omega) (fun μ2 hj2 hf2 => ?_)
                    have hX2 := hX1'.jrn hj2 hf2
                    rw [← eui] at hX2
                    have h2 : VR μ2 (nt S.1 c, S.2) := by
                      refine ⟨_, ?_, jOk_nt (c := c) hj i2⟩
                      show VX μ2 (rp (nt (S.1.1, S.1.2) c).1) S.2.1 S.2.2.1 _ ((nt (S.1.1, S.1.2) c).1.length - (nt (S.1.1, S.1.2) c).2) (nt (S.1.1, S.1.2) c).2 _ _
                      rw [nt_op i2, nt_du i2]
                      exact hX2
                    have hX2' := hX2
                    obtain ⟨p1, ⟨-, f3, p2, p3⟩, -, p4, -⟩ := hX2
                    unfold voP at p1
                    obtain ⟨V2, T2, kA2, -⟩ := p4 s.toNat e3
                    refine x_aload rfl rfl ?_
                    refine x_get rfl p1 rfl ?_
                    refine x_iload rfl rfl ?_
                    refine x_aaldN (j := s.toNat) rfl p2 (by omega) (by omega) ?_
                    rw [p3 _ e3]
                    refine x_iload rfl rfl ?_
                    refine x_iload rfl rfl ?_
                    refine x_callV2 rfl kA2.1 (Nat.le_of_ble_eq_true rfl) ?_
                    refine v_know (S := (nt S.1 c, S.2)) (k := n.toNat - 1) h2 e3 (by omega) hk (fun μ3 h3 hf3 => ?_)
                    have h3' : VR μ3 (stS S s n mode f) := by
                      unfold stS
                      rw [← hcd]
                      exact h3
                    obtain ⟨E3, hX3, -⟩ := h3.VX
                    have o3 := hX3.1
                    unfold voP at o3
                    have e1' : ((stS S s n mode f).2.2.1 s.toNat).1 = (((S.2.2.1 s.toNat).1.toNat : Nat) : Int) := by
                      unfold stS
                      rw [vws_fu]
                      exact e1
                    refine x_aload rfl rfl ?_
                    refine x_iload rfl rfl ?_
                    refine x_const rfl ?_
                    refine x_callV2 rfl o3 (Nat.le_of_ble_eq_true rfl) ?_
                    rw [e4]
                    refine VR.upd h3' (m := (S.2.2.1 s.toNat).1.toNat) e3 e1' e2 (fun μ4 h4 hf4 => ?_)
                    rw [← e4]
                    refine x_iload rfl rfl ?_
                    refine x_iret rfl ?_
                    exact hQ μ4 h4 ((((hf1.wd (by omega) (by omega)).tr (hf2.wd (by omega) (by omega))).tr hf3).tr hf4)
                  · exact absurd hc (by omega)
                · rw [if_neg hfd] at hQ
                  rw [pz_no hfd]
                  refine x_istore rfl (Nat.le_of_ble_eq_true rfl) ?_
                  refine x_iload rfl rfl ?_
                  refine x_const rfl ?_
                  refine x_icmp_ne rfl (fun hc => ?_) (fun hc => ?_)
                  · exact absurd rfl hc
                  · refine x_const rfl ?_
                    refine x_iret rfl ?_
                    exact hQ μ h fr.rf
              · rw [if_neg hc] at hQ
                refine x_const rfl ?_
                refine x_iret rfl ?_
                exact hQ μ h fr.rf
            · exact absurd hc (by decide)
          · refine x_if_ne rfl (fun hc => ?_) (fun hc => ?_)
            · exact absurd rfl hc
            · exact bad (fun q => hs q.2.2)
      · refine x_if_eq rfl (fun hc => ?_) (fun hc => ?_)
        · exact bad (fun q => hfl q.2.1)
        · exact absurd rfl hc
end V6
