/-! the class's last methods, and its making -/
section V7
variable {d nn ss : Nat} {μ : Nat → Option am_C} {Q : Option am_V → am_M → Prop} {S : mv_T}
theorem v_criterion {op a b : Int} (h : VR μ S) (hQ : ∀ μ', VR μ' (sp_criterion S op a b).2 → fr μ μ' 1 50 → Q (some (.inl (sp_criterion S op a b).1)) (nn, ss, μ')) : am_Wp mv_P (d + 2) jV_criterion [.inr (some 1), .inl op, .inl a, .inl b] (nn, ss, μ) Q := by
  obtain ⟨E, hX, hj⟩ := h.VX
  have hX' := hX
  obtain ⟨g1, -, -, -, -, ⟨K, F, Z, c1, c2, c3⟩, -⟩ := hX
  unfold voP at g1
  unfold sp_criterion at hQ
  refine am_wp pV_criterion (Nat.le_of_ble_eq_true rfl) ?_
  refine x_iload rfl rfl ?_
  refine x_callS1 rfl (Nat.le_of_ble_eq_true rfl) ?_
  refine c_C_isOp ?_
  by_cases ho : 0 ≤ op ∧ op ≤ 8
  · rw [if_pos ho] at hQ ⊢
    refine x_if_ne rfl (fun hc => ?_) (fun hc => ?_)
    · refine x_aload rfl rfl ?_
      refine x_get rfl g1 rfl ?_
      refine x_callV0 rfl c1.1 (Nat.le_of_ble_eq_true rfl) ?_
      refine c_C_isFull c1 ?_
      by_cases h14 : 14 ≤ S.2.2.2.1.length
      · rw [if_pos h14]
        rw [if_pos (by omega)] at hQ
        refine x_if_eq rfl (fun hc => ?_) (fun hc => ?_)
        · exact absurd hc (by decide)
        · refine x_const rfl ?_
          refine x_iret rfl ?_
          exact hQ μ h fr.rf
      · rw [if_neg h14]
        rw [if_neg (by omega)] at hQ
        refine x_if_eq rfl (fun hc => ?_) (fun hc => ?_)
        · refine x_aload rfl rfl ?_
          refine x_get rfl g1 rfl ?_
          refine x_iload rfl rfl ?_
          refine x_iload rfl rfl ?_
          refine x_iload rfl rfl ?_
          refine x_callV3 rfl c1.1 (Nat.le_of_ble_eq_true rfl) ?_
          refine c_C_write c1 (by omega) (fun μ1 hc1 hf1 => ?_)
          have hct : ctP μ1 (S.2.2.2.1 ++ [(op, a, b)]) := by
            refine ⟨am_fu K S.2.2.2.1.length (op, a, b), F, Z, by rw [List.length_append]; exact hc1, by simp; omega, fun k hk => ?_⟩
            simp only [List.length_append, List.length_cons, List.length_nil] at hk
            rw [mg_app]
            by_cases hk2 : k < S.2.2.2.1.length
            · rw [if_pos hk2, am_fu_n (by omega)]
              exact c3 k hk2
            · rw [if_neg hk2, if_pos (by omega), show k = S.2.2.2.1.length by omega, am_fu_s]
          have hX1 := hX'.crt hct hf1
          have o1 := hX1.1
          unfold voP at o1
          refine x_aload rfl rfl ?_
          refine x_get rfl o1 rfl ?_
          refine x_callV0 rfl hc1.1 (Nat.le_of_ble_eq_true rfl) ?_
          refine c_C_tokenCount hc1 ?_
          refine x_iret rfl ?_
          exact hQ μ1 ⟨E, hX1, hj⟩ (hf1.wd (by omega) (by omega))
        · exact absurd rfl hc
    · exact absurd hc (by decide)
  · rw [if_neg ho] at hQ ⊢
    refine x_if_ne rfl (fun hc => ?_) (fun hc => ?_)
    · exact absurd rfl hc
    · refine x_const rfl ?_
      refine x_iret rfl ?_
      exact hQ μ h fr.rf
theorem VX.htl {μ' : Nat → Option am_C} {B : Nat → mv_B} {vl : Nat → Int} {ses : Nat → mv_S} {E : Nat → mv_H} {op du : Nat} {tk : List mv_Q} {fd fd' : List Int} (h : VX μ B vl ses E op du tk fd) (ho : voP μ' fd'.length) (hh : htP μ' fd') (hf : ∀ x, x ≠ 1 → x ≠ 49 → μ' x = μ x) : VX μ' B vl ses E op du tk fd' := by
  obtain ⟨h1, ⟨⟨f, v1, v2⟩, g, v3, v4⟩, h3, h4, h5, ⟨K, F, Z, h6, h6'⟩, h7⟩ := h
  have key : fr μ μ' 49 50 ∨ True := Or.inr trivial
  have kb : ∀ m, m < 3 → bx μ' (3 + 4 * m) (B m) (vl m) := fun m hm => by
    obtain ⟨W, ⟨q0, q1, q2, q3⟩, q4⟩ := h3 m hm
    exact ⟨W, ⟨by rw [hf _ (by omega) (by omega)]; exact q0, by rw [hf _ (by omega) (by omega)]; exact q1, by rw [hf _ (by omega) (by omega)]; exact q2, by rw [hf _ (by omega) (by omega)]; exact q3⟩, q4⟩
  have ks : ∀ s, s < 4 → seP μ' s (ses s) := fun s hs => by
    obtain ⟨V, T, ⟨q0, q1, q2, q3, q4⟩, q5⟩ := h4 s hs
    exact ⟨V, T, ⟨by rw [hf _ (by omega) (by omega)]; exact q0, by rw [hf _ (by omega) (by omega)]; exact q1, by rw [hf _ (by omega) (by omega)]; exact q2, by rw [hf _ (by omega) (by omega)]; exact q3, by rw [hf _ (by omega) (by omega)]; exact q4⟩, q5⟩
  obtain ⟨j0, j1, j2, j3, j4, j5⟩ := h5
  obtain ⟨c0, c1, c2, c3, c4, c5, c6⟩ := h6
  exact ⟨ho, ⟨⟨f, by rw [hf _ (by omega) (by omega)]; exact v1, v2⟩, g, by rw [hf _ (by omega) (by omega)]; exact v3, v4⟩, kb, ks, ⟨by rw [hf _ (by omega) (by omega)]; exact j0, by rw [hf _ (by omega) (by omega)]; exact j1, by rw [hf _ (by omega) (by omega)]; exact j2, by rw [hf _ (by omega) (by omega)]; exact j3, by rw [hf _ (by omega) (by omega)]; exact j4, by rw [hf _ (by omega) (by omega)]; exact j5⟩, ⟨K, F, Z, ⟨by rw [hf _ (by omega) (by omega)]; exact c0, by rw [hf _ (by omega) (by omega)]; exact c1, by rw [hf _ (by omega) (by omega)]; exact c2, by rw [hf _ (by omega) (by omega)]; exact c3, by rw [hf _ (by omega) (by omega)]; exact c4, by rw [hf _ (by omega) (by omega)]; exact c5, by rw [hf _ (by omega) (by omega)]; exact c6⟩, h6'⟩, hh⟩
/-- what is found -/
theorem c_V_findHits {B : Nat → mv_B} {vl : Nat → Int} {ses : Nat → mv_S} {E : Nat → mv_H} {op du : Nat} {tk : List mv_Q} {fd : List Int} {s m : Nat} {K : Nat → mv_Q} {F : Nat → mv_V} {Z : Nat → Int} (h : VX μ B vl ses E op du tk fd) (hK : ctA μ 42 K F Z tk.length) (hK2 : ∀ k, k < tk.length → K k = mg tk k) (hF : ∀ k, k < tk.length → F k = ed tk k) (h14 : tk.length ≤ 14) (hpos : 0 < tk.length) (hop : ∀ k, k < tk.length → 0 ≤ (mg tk k).1) (hs : s < 4) (hm3 : m < 3) (hQ : ∀ μ', VX μ' B vl ses E op du tk (fh (B m).1 tk (ses s).2.2.2.1 0) → fr μ μ' 1 50 → Q none (nn, ss, μ')) : am_Wp mv_P (d + 4) jV_findHits [.inr (some 1), .inr (some (16 + 5 * s)), .inr (some (3 + 4 * m))] (nn, ss, μ) Q := by
  have h24 : (ses s).2.2.2.1.length ≤ 24 := by
    obtain ⟨V, T, -, -, -, k4, -⟩ := h.2.2.2.1 s hs
    exact k4
  have loop : ∀ (r : List mv_V) (k : Nat) (μ' : Nat → Option am_C) (fd' : List Int) (Z' : Nat → Int) (l4 : Option am_V), k + r.length = (ses s).2.2.2.1.length → (∀ i, i < r.length → vg (ses s).2.2.2.1 (k + i) = vg r i) → fd'.length ≤ k → VX μ' B vl ses E op du tk fd' → ctA μ' 42 K F Z' tk.length → fd' ++ fh (B m).1 tk r k = fh (B m).1 tk (ses s).2.2.2.1 0 → fr μ μ' 1 50 → am_Ex mv_P (d + 3) (am_at kV_findHits) (7, [some (.inr (some 1)), some (.inr (some (16 + 5 * s))), some (.inr (some (3 + 4 * m))), some (.inl ((k : Int) + 1)), l4], [], nn, ss, μ') Q := by
    intro r
    induction r with
    | nil =>
      intro k μ' fd' Z' l4 hk hr hfk hX hK' e hf
      simp only [List.length_nil] at hk
      obtain ⟨V, T, kA, -⟩ := hX.2.2.2.1 s hs
      refine x_iload rfl rfl ?_
      refine x_aload rfl rfl ?_
      refine x_callV0 rfl kA.1 (Nat.le_of_ble_eq_true rfl) ?_
      refine c_S_viewLength kA ?_
      refine x_icmp_gt rfl (fun hc => ?_) (fun hc => ?_)
      · refine x_vret rfl ?_
        have e : fd' = fh (B m).1 tk (ses s).2.2.2.1 0 := (List.append_nil fd').symm.trans e
        rw [← e] at hQ
        exact hQ μ' hX hf
      · exact absurd hc (by omega)
    | cons x r ih =>
      intro k μ' fd' Z' l4 hk hr hfk hX hK' e hf
      simp only [List.length_cons] at hk
      have hX' := hX
      obtain ⟨g1, -, g7, g4, -, -, f, t1, t2, t3⟩ := hX
      unfold voP at g1
      obtain ⟨V, T, kA, k2, -⟩ := g4 s hs
      have hb := g7 m hm3
      obtain ⟨fs, hob⟩ := hb.ob
      have hVk : V k = x := by
        rw [k2 k (by omega)]
        have := hr 0 (by simp)
        rw [Nat.add_zero, vg_0] at this
        exact this
      have hr' : ∀ i, i < r.length → vg (ses s).2.2.2.1 (k + 1 + i) = vg r i := fun i hi => by
        have := hr (i + 1) (by simp; omega)
        rw [vg_s, show k + (i + 1) = k + 1 + i by omega] at this
        exact this
      refine x_iload rfl rfl ?_
      refine x_aload rfl rfl ?_
      refine x_callV0 rfl kA.1 (Nat.le_of_ble_eq_true rfl) ?_
      refine c_S_viewLength kA ?_
      refine x_icmp_gt rfl (fun hc => ?_) (fun hc => ?_)
      · exact absurd hc (by omega)
      · refine x_aload rfl rfl ?_
        refine x_aload rfl rfl ?_
        refine x_iload rfl rfl ?_
        refine x_callV1 rfl kA.1 (Nat.le_of_ble_eq_true rfl) ?_
        refine c_S_uidOf kA rfl (by omega) ?_
        rw [hVk]
        refine x_callV1 rfl (by assumption) (Nat.le_of_ble_eq_true rfl) ?_
        refine d_B_positionOf hb ?_
        by_cases hfd : fp (B m).1 x.1 < (B m).1.length
        · rw [pz_yes hfd]
          refine x_istore rfl (Nat.le_of_ble_eq_true rfl) ?_
          refine x_iload rfl rfl ?_
          refine x_const rfl ?_
          refine x_icmp_eq rfl (fun hc => ?_) (fun hc => ?_)
          · exact absurd hc (by omega)
          · refine x_aload rfl rfl ?_
            refine x_get rfl g1 rfl ?_
            refine x_aload rfl rfl ?_
            refine x_iload rfl rfl ?_
            refine x_iload rfl rfl ?_
            refine x_callV3 rfl hK'.1 (Nat.le_of_ble_eq_true rfl) ?_
            refine c_C_isFulfilledBy hK' h14 hpos hK2 hop hF hb hfd (by omega) (fun μ1 Z1 hK1 hf1 => ?_)
            have hX1 := hX'.crt ⟨K, F, Z1, hK1, h14, hK2⟩ hf1
            by_cases htv : tv tk (lfv (mg (B m).1 (fp (B m).1 x.1)) ((k : Int) + 1)) 0 = 0
            · rw [if_pos htv]
              have d1 : fh (B m).1 tk (x :: r) k = fh (B m).1 tk r (k + 1) := by
                show (if _ then _ else _) = _
                rw [if_neg (fun q => q.2 htv)]
              refine x_if_eq rfl (fun hc => ?_) (fun hc => ?_)
              · refine x_iinc rfl rfl ⟨by omega, by omega⟩ ?_
                refine x_goto rfl ?_
                exact ih (k + 1) μ1 fd' Z1 _ (by omega) hr' (by omega) hX1 hK1 (by rw [← e, d1]) (hf.tr (hf1.wd (by omega) (by omega)))
              · exact absurd rfl hc
            · rw [if_neg htv]
              have d1 : fh (B m).1 tk (x :: r) k = ((k : Int) + 1) :: fh (B m).1 tk r (k + 1) := by
                show (if _ then _ else _) = _
                rw [if_pos ⟨hfd, htv⟩]
              have hX1' := hX1
              obtain ⟨o1, -, -, -, -, -, f1, s1, s2, s3⟩ := hX1
              unfold voP at o1
              refine x_if_eq rfl (fun hc => ?_) (fun hc => ?_)
              · exact absurd hc (by decide)
              · refine x_aload rfl rfl ?_
                refine x_get rfl o1 rfl ?_
                refine x_aload rfl rfl ?_
                refine x_get rfl o1 rfl ?_
                refine x_iload rfl rfl ?_
                refine x_iastN (j := fd'.length) rfl s1 (by omega) (by omega) rfl ?_
                intro μ2 n2 p2
                have o2 := (p2 1 (by omega)).trans o1
                refine x_aload rfl rfl ?_
                refine x_dup rfl ?_
                refine x_get rfl o2 rfl ?_
                refine x_const rfl ?_
                refine x_iadd rfl ⟨by omega, by omega⟩ ?_
                refine x_putG rfl o2 (Nat.le_of_ble_eq_true rfl) rfl ?_
                intro μ3 n3 p3
                have n2 := (p3 49 (by omega)).trans n2
                have key : ∀ w, w ≠ 1 → w ≠ 49 → μ3 w = μ1 w := fun w q1 q2 => by rw [p3 w q1, p2 w q2]
                have hX3 := hX1'.htl (fd' := fd' ++ [((k : Int) + 1)]) (by unfold voP; rw [n3, List.length_append]; rfl) ⟨_, n2, by simp; omega, fun j hj => by
                  simp only [List.length_append, List.length_cons, List.length_nil] at hj
                  by_cases hj2 : j < fd'.length
                  · rw [am_fu_n (by omega), s3 j hj2, List.getD_eq_getElem?_getD, List.getD_eq_getElem?_getD, List.getElem?_append_left hj2]
                  · rw [show j = fd'.length by omega, am_fu_s, List.getD_eq_getElem?_getD, List.getElem?_append_right (Nat.le_refl _), Nat.sub_self]
                    rfl⟩ key
                refine x_iinc rfl rfl ⟨by omega, by omega⟩ ?_
                refine x_goto rfl ?_
                have hf3 : fr μ1 μ3 1 50 := fun w hw => key w (by omega) (by omega)
                refine ih (k + 1) μ3 (fd' ++ [((k : Int) + 1)]) Z1 _ (by omega) hr' (by simp; omega) hX3 ?_ (by rw [← e, d1]; simp) ((hf.tr (hf1.wd (by omega) (by omega))).tr hf3)
                obtain ⟨c0, c1, c2, c3, c4, c5, c6⟩ := hK1
                exact ⟨(key _ (by omega) (by omega)).trans c0, (key _ (by omega) (by omega)).trans c1, (key _ (by omega) (by omega)).trans c2, (key _ (by omega) (by omega)).trans c3, (key _ (by omega) (by omega)).trans c4, (key _ (by omega) (by omega)).trans c5, (key _ (by omega) (by omega)).trans c6⟩
        · rw [pz_no hfd]
          have d1 : fh (B m).1 tk (x :: r) k = fh (B m).1 tk r (k + 1) := by
            show (if _ then _ else _) = _
            rw [if_neg (fun q => hfd q.1)]
          refine x_istore rfl (Nat.le_of_ble_eq_true rfl) ?_
          refine x_iload rfl rfl ?_
          refine x_const rfl ?_
          refine x_icmp_eq rfl (fun hc => ?_) (fun hc => ?_)
          · refine x_iinc rfl rfl ⟨by omega, by omega⟩ ?_
            refine x_goto rfl ?_
            exact ih (k + 1) μ' fd' Z' _ (by omega) hr' (by omega) hX' hK' (by rw [← e, d1]) hf
          · exact absurd rfl hc
  have h' := h
  obtain ⟨g1, -, -, -, -, -, f, t1, t2, t3⟩ := h
  unfold voP at g1
  refine am_wp pV_findHits (Nat.le_of_ble_eq_true rfl) ?_
  refine x_aload rfl rfl ?_
  refine x_const rfl ?_
  refine x_putG rfl (by assumption) (Nat.le_of_ble_eq_true rfl) rfl ?_
  intro μ1 n1 o1
  refine x_const rfl ?_
  refine x_istore rfl (Nat.le_of_ble_eq_true rfl) ?_
  have hX1 := h'.htl (fd' := []) n1 ⟨f, (o1 _ (by omega)).trans t1, Nat.zero_le _, fun k hk => (by cases hk)⟩ (fun w q1 _ => o1 w q1)
  obtain ⟨c0, c1, c2, c3, c4, c5, c6⟩ := hK
  exact loop (ses s).2.2.2.1 0 μ1 [] Z none (by omega) (fun i hi => by rw [Nat.zero_add]) (Nat.zero_le _) hX1 ⟨(o1 _ (by omega)).trans c0, (o1 _ (by omega)).trans c1, (o1 _ (by omega)).trans c2, (o1 _ (by omega)).trans c3, (o1 _ (by omega)).trans c4, (o1 _ (by omega)).trans c5, (o1 _ (by omega)).trans c6⟩ rfl (fun w hw => o1 w (by omega))
theorem v_search {s : Int} (h : VR μ S) (hI : IC S) (hQ : ∀ μ', VR μ' (sp_search S s).2 → fr μ μ' 1 50 → Q (some (.inl (sp_search S s).1)) (nn, ss, μ')) : am_Wp mv_P (d + 5) jV_search [.inr (some 1), .inl s] (nn, ss, μ) Q := by
  obtain ⟨E, hX, hj⟩ := h.VX
  have hX' := hX
  obtain ⟨g1, ⟨-, f1, g2, g3⟩, -, g4, -, ⟨K, F, Z, c1, c2, c3⟩, -⟩ := hX
  unfold voP at g1
  unfold sp_search at hQ
  refine am_wp pV_search (Nat.le_of_ble_eq_true rfl) ?_
  refine x_aload rfl rfl ?_
  refine x_iload rfl rfl ?_
  refine x_callV1 rfl (by assumption) (Nat.le_of_ble_eq_true rfl) ?_
  refine c_V_hasMailbox hX' (fun hs => ?_) (fun hs => ?_)
  · obtain ⟨e1, e2, e3, e4⟩ := hs.mb hI
    rw [if_pos hs] at hQ
    refine x_if_ne rfl (fun hc => ?_) (fun hc => ?_)
    · refine x_aload rfl rfl ?_
      refine x_get rfl g1 rfl ?_
      refine x_callV0 rfl c1.1 (Nat.le_of_ble_eq_true rfl) ?_
      refine c_C_isGood c1 c2 c3 (fun μ1 F1 hc1 hF1 hg hf1 => ?_) (fun μ1 F1 hc1 hg hf1 => ?_)
      · rw [if_pos hg] at hQ
        have hX1 := hX'.crt ⟨K, F1, Z, hc1, c2, c3⟩ hf1
        have hX1' := hX1
        obtain ⟨o1, ⟨-, f2, o2, o3⟩, -⟩ := hX1
        unfold voP at o1
        refine x_if_ne rfl (fun hc => ?_) (fun hc => ?_)
        · refine x_aload rfl rfl ?_
          refine x_aload rfl rfl ?_
          refine x_get rfl o1 rfl ?_
          refine x_iload rfl rfl ?_
          refine x_aaldN (j := s.toNat) rfl o2 (by omega) (by omega) ?_
          rw [o3 _ e3]
          refine x_aload rfl rfl ?_
          refine x_iload rfl rfl ?_
          refine x_callV1 rfl o1 (Nat.le_of_ble_eq_true rfl) ?_
          rw [e4]
          refine c_V_mailboxOf hX1' e3 e1 e2 ?_
          rw [← e4]
          refine x_callV2 rfl o1 (Nat.le_of_ble_eq_true rfl) ?_
          refine c_V_findHits hX1' hc1 c3 hF1 c2 hg.1 hI.2.2.2.2 e3 e2 (fun μ2 hX2 hf2 => ?_)
          have hX2' := hX2
          obtain ⟨q1, -, -, -, -, ⟨K2, F2, Z2, d1, d2, d3⟩, -⟩ := hX2
          unfold voP at q1
          refine x_aload rfl rfl ?_
          refine x_get rfl q1 rfl ?_
          refine x_callV0 rfl d1.1 (Nat.le_of_ble_eq_true rfl) ?_
          refine c_C_wipe d1 (fun μ3 hc3 hf3 => ?_)
          have hX3 := hX2'.crt (tk' := []) ⟨K2, F2, Z2, hc3, Nat.zero_le _, fun k hk => (by cases hk)⟩ hf3
          have h3 : VR μ3 (setK S [] (fdS S s.toNat)) := ⟨E, hX3, hj⟩
          have p1 := hX3.1
          unfold voP at p1
          refine x_aload rfl rfl ?_
          refine x_iload rfl rfl ?_
          refine x_const rfl ?_
          refine x_callV2 rfl p1 (Nat.le_of_ble_eq_true rfl) ?_
          rw [e4]
          refine VR.upd h3 (m := (S.2.2.1 s.toNat).1.toNat) e3 e1 e2 (fun μ4 h4 hf4 => ?_)
          rw [← e4]
          obtain ⟨E4, hX4, -⟩ := h4.VX
          have r1 := hX4.1
          unfold voP at r1
          refine x_aload rfl rfl ?_
          refine x_get rfl r1 rfl ?_
          refine x_iret rfl ?_
          exact hQ μ4 h4 ((((hf1.wd (by omega) (by omega)).tr hf2).tr (hf3.wd (by omega) (by omega))).tr hf4)
        · exact absurd hc (by decide)
      · rw [if_neg hg] at hQ
        have hX1 := hX'.crt ⟨K, F1, Z, hc1, c2, c3⟩ hf1
        have o1 := hX1.1
        unfold voP at o1
        refine x_if_ne rfl (fun hc => ?_) (fun hc => ?_)
        · exact absurd rfl hc
        · refine x_aload rfl rfl ?_
          refine x_get rfl o1 rfl ?_
          refine x_callV0 rfl hc1.1 (Nat.le_of_ble_eq_true rfl) ?_
          refine c_C_wipe hc1 (fun μ3 hc3 hf3 => ?_)
          have hX3 := hX1.crt (tk' := []) ⟨K, F1, Z, hc3, Nat.zero_le _, fun k hk => (by cases hk)⟩ hf3
          refine x_const rfl ?_
          refine x_iret rfl ?_
          exact hQ μ3 ⟨E, hX3, hj⟩ ((hf1.wd (by omega) (by omega)).tr (hf3.wd (by omega) (by omega)))
    · exact absurd hc (by decide)
  · rw [if_neg hs] at hQ
    refine x_if_ne rfl (fun hc => ?_) (fun hc => ?_)
    · exact absurd rfl hc
    · refine x_const rfl ?_
      refine x_iret rfl ?_
      exact hQ μ h fr.rf
theorem v_found {k : Int} (h : VR μ S) (hQ : Q (some (.inl (sp_found S k))) (nn, ss, μ)) : am_Wp mv_P (d + 1) jV_found [.inr (some 1), .inl k] (nn, ss, μ) Q := by
  obtain ⟨E, ⟨g1, -, -, -, -, -, f, t1, t2, t3⟩, hj⟩ := h.VX
  unfold voP at g1
  unfold sp_found at hQ
  refine am_wp pV_found (Nat.le_of_ble_eq_true rfl) ?_
  refine x_iload rfl rfl ?_
  refine x_if_lt rfl (fun hc => ?_) (fun hc => ?_)
  · rw [if_neg (by omega)] at hQ
    refine x_const rfl ?_
    refine x_iret rfl ?_
    exact hQ
  · refine x_iload rfl rfl ?_
    refine x_aload rfl rfl ?_
    refine x_get rfl (by assumption) rfl ?_
    refine x_icmp_ge rfl (fun hc => ?_) (fun hc => ?_)
    · rw [if_neg (by omega)] at hQ
      refine x_const rfl ?_
      refine x_iret rfl ?_
      exact hQ
    · rw [if_pos (by omega)] at hQ
      refine x_aload rfl rfl ?_
      refine x_get rfl (by assumption) rfl ?_
      refine x_iload rfl rfl ?_
      refine x_ialdN (j := k.toNat) rfl (by assumption) (by omega) (by omega) ?_
      refine x_goto rfl ?_
      rw [t3 _ (by omega)]
      refine x_iret rfl ?_
      exact hQ
theorem v_sync (h : VR μ S) (hI : IC S) (hQ : ∀ μ', VR μ' (sp_sync S) → fr μ μ' 1 50 → Q (some (.inl (S.1.1.length : Int))) (nn, ss, μ')) : am_Wp mv_P (d + 2) jV_sync [.inr (some 1)] (nn, ss, μ) Q := by
  obtain ⟨E, hX, hj⟩ := h.VX
  have hX' := hX
  obtain ⟨g1, -, -, -, g8, -⟩ := hX
  unfold voP at g1
  obtain ⟨i1, i2, i3, i4⟩ := hI.1
  refine am_wp pV_sync (Nat.le_of_ble_eq_true rfl) ?_
  refine x_aload rfl rfl ?_
  refine x_get rfl g1 rfl ?_
  refine x_callV0 rfl g8.1 (Nat.le_of_ble_eq_true rfl) ?_
  refine c_J_makeAllDurable g8 (by omega) (fun μ1 hj1 hf1 => ?_)
  have hX1 := hX'.jrn hj1 hf1
  rw [show S.1.2 + (S.1.1.length - S.1.2) = S.1.1.length by omega] at hj1 hX1
  have o1 := hX1.1
  unfold voP at o1
  refine x_aload rfl rfl ?_
  refine x_get rfl o1 rfl ?_
  refine x_callV0 rfl hj1.1 (Nat.le_of_ble_eq_true rfl) ?_
  refine c_J_changeCount hj1 (by omega) ?_
  refine x_iret rfl ?_
  have e : ((S.1.1.length : Nat) : Int) + ((0 : Nat) : Int) = (S.1.1.length : Int) := by omega
  rw [e]
  refine hQ μ1 ⟨E, ?_, fun k hk => ?_⟩ (hf1.wd (by omega) (by omega))
  · show VX μ1 (rp S.1.1) S.2.1 S.2.2.1 E (S.1.1.length - S.1.1.length) S.1.1.length _ _
    rw [Nat.sub_self]
    exact hX1
  · have hk : k < S.1.1.length - S.1.1.length := hk
    omega
theorem v_message {m k w : Int} (h : VR μ S) (hQ : Q (some (.inl (sp_message S m k w))) (nn, ss, μ)) : am_Wp mv_P (d + 2) jV_message [.inr (some 1), .inl m, .inl k, .inl w] (nn, ss, μ) Q := by
  obtain ⟨E, ⟨g1, ⟨⟨f0, g5, g6⟩, -⟩, g7, -⟩, hj⟩ := h.VX
  unfold voP at g1
  unfold sp_message at hQ
  refine am_wp pV_message (Nat.le_of_ble_eq_true rfl) ?_
  refine x_iload rfl rfl ?_
  refine x_callS1 rfl (Nat.le_of_ble_eq_true rfl) ?_
  refine c_V_isMailbox (fun hm => ?_) (fun hm => ?_)
  · have hb := g7 m.toNat (by omega)
    obtain ⟨fs, hob⟩ := hb.ob
    refine x_if_eq rfl (fun hc => ?_) (fun hc => ?_)
    · exact absurd hc (by decide)
    · refine x_iload rfl rfl ?_
      refine x_if_lt rfl (fun hc => ?_) (fun hc => ?_)
      · rw [if_neg (by omega)] at hQ
        refine x_const rfl ?_
        refine x_iret rfl ?_
        exact hQ
      · refine x_iload rfl rfl ?_
        refine x_aload rfl rfl ?_
        refine x_get rfl (by assumption) rfl ?_
        refine x_iload rfl rfl ?_
        refine x_aaldN (j := m.toNat) rfl (by assumption) (by omega) (by omega) ?_
        rw [g6 _ (by omega)]
        refine x_callV0 rfl (by assumption) (Nat.le_of_ble_eq_true rfl) ?_
        refine d_B_messageCount hb ?_
        refine x_icmp_lt rfl (fun hc => ?_) (fun hc => ?_)
        · rw [if_pos (by omega)] at hQ
          refine x_iload rfl rfl ?_
          refine x_tsw rfl ?_
          by_cases w0 : w = 0
          · rw [if_pos w0] at hQ
            rw [w0]
            show am_Ex mv_P (d + 1) (am_at kV_message) (52, _, _, _) Q
            refine x_aload rfl rfl ?_
            refine x_get rfl (by assumption) rfl ?_
            refine x_iload rfl rfl ?_
            refine x_aaldN (j := m.toNat) rfl (by assumption) (by omega) (by omega) ?_
            rw [g6 _ (by omega)]
            refine x_iload rfl rfl ?_
            refine x_callV1 rfl (by assumption) (Nat.le_of_ble_eq_true rfl) ?_
            rw [show k = ((k.toNat : Nat) : Int) by omega]
            refine d_B_uidAt hb (by omega) ?_
            refine x_iret rfl ?_
            exact hQ
          · rw [if_neg w0] at hQ
            by_cases w1 : w = 1
            · rw [if_pos w1] at hQ
              rw [w1]
              show am_Ex mv_P (d + 1) (am_at kV_message) (63, _, _, _) Q
              refine x_aload rfl rfl ?_
              refine x_get rfl (by assumption) rfl ?_
              refine x_iload rfl rfl ?_
              refine x_aaldN (j := m.toNat) rfl (by assumption) (by omega) (by omega) ?_
              rw [g6 _ (by omega)]
              refine x_iload rfl rfl ?_
              refine x_callV1 rfl (by assumption) (Nat.le_of_ble_eq_true rfl) ?_
              rw [show k = ((k.toNat : Nat) : Int) by omega]
              refine d_B_flagsAt hb (by omega) ?_
              refine x_iret rfl ?_
              exact hQ
            · rw [if_neg w1] at hQ
              by_cases w2 : w = 2
              · rw [if_pos w2] at hQ
                rw [w2]
                show am_Ex mv_P (d + 1) (am_at kV_message) (74, _, _, _) Q
                refine x_aload rfl rfl ?_
                refine x_get rfl (by assumption) rfl ?_
                refine x_iload rfl rfl ?_
                refine x_aaldN (j := m.toNat) rfl (by assumption) (by omega) (by omega) ?_
                rw [g6 _ (by omega)]
                refine x_iload rfl rfl ?_
                refine x_callV1 rfl (by assumption) (Nat.le_of_ble_eq_true rfl) ?_
                rw [show k = ((k.toNat : Nat) : Int) by omega]
                refine d_B_sizeAt hb (by omega) ?_
                refine x_iret rfl ?_
                exact hQ
              · rw [if_neg w2] at hQ
                have e : am_ts 0 [52, 63, 74] 85 w = 85 := by
                  unfold am_ts
                  rw [if_neg]
                  simp only [List.length_cons, List.length_nil]
                  omega
                rw [e]
                refine x_const rfl ?_
                refine x_iret rfl ?_
                exact hQ
        · rw [if_neg (by omega)] at hQ
          refine x_const rfl ?_
          refine x_iret rfl ?_
          exact hQ
  · rw [if_neg (fun q => hm q.1)] at hQ
    refine x_if_eq rfl (fun hc => ?_) (fun hc => ?_)
    · refine x_const rfl ?_
      refine x_iret rfl ?_
      exact hQ
    · exact absurd rfl hc
theorem v_seen {s n w : Int} (h : VR μ S) (hI : IC S) (hQ : Q (some (.inl (sp_seen S s n w))) (nn, ss, μ)) : am_Wp mv_P (d + 4) jV_seen [.inr (some 1), .inl s, .inl n, .inl w] (nn, ss, μ) Q := by
  obtain ⟨E, hX, hj⟩ := h.VX
  have hX' := hX
  obtain ⟨g1, ⟨-, f1, g2, g3⟩, -, g4, -⟩ := hX
  unfold voP at g1
  unfold sp_seen at hQ
  refine am_wp pV_seen (Nat.le_of_ble_eq_true rfl) ?_
  refine x_aload rfl rfl ?_
  refine x_iload rfl rfl ?_
  refine x_iload rfl rfl ?_
  refine x_callV2 rfl (by assumption) (Nat.le_of_ble_eq_true rfl) ?_
  refine c_V_isInView hX' (fun hs => ?_) (fun hs => ?_)
  · obtain ⟨e1, e2, e3, e4⟩ := hs.1.mb hI
    have hn := hs.2
    rw [if_pos hs] at hQ
    obtain ⟨V, T, kA, k2, k3, k4, k5, k6⟩ := g4 s.toNat e3
    have hk' : n.toNat - 1 < (S.2.2.1 s.toNat).2.2.2.1.length := by omega
    have eV : V (n.toNat - 1) = vg (vws S s.toNat) (n.toNat - 1) := k2 _ hk'
    refine x_if_ne rfl (fun hc => ?_) (fun hc => ?_)
    · refine x_iload rfl rfl ?_
      refine x_lsw rfl ?_
      by_cases w0 : w = 0
      · rw [if_pos w0, ← eV] at hQ
        rw [w0]
        show am_Ex mv_P (d + 3) (am_at kV_seen) (40, _, _, _) Q
        refine x_aload rfl rfl ?_
        refine x_get rfl (by assumption) rfl ?_
        refine x_iload rfl rfl ?_
        refine x_aaldN (j := s.toNat) rfl (by assumption) (by omega) (by omega) ?_
        rw [g3 _ e3]
        refine x_iload rfl rfl ?_
        refine x_callV1 rfl kA.1 (Nat.le_of_ble_eq_true rfl) ?_
        refine c_S_uidOf (k := n.toNat - 1) kA (by omega) (by omega) ?_
        refine x_iret rfl ?_
        exact hQ
      · rw [if_neg w0] at hQ
        by_cases w1 : w = 1
        · rw [if_pos w1, ← eV] at hQ
          rw [w1]
          show am_Ex mv_P (d + 3) (am_at kV_seen) (51, _, _, _) Q
          refine x_aload rfl rfl ?_
          refine x_get rfl (by assumption) rfl ?_
          refine x_iload rfl rfl ?_
          refine x_aaldN (j := s.toNat) rfl (by assumption) (by omega) (by omega) ?_
          rw [g3 _ e3]
          refine x_iload rfl rfl ?_
          refine x_callV1 rfl kA.1 (Nat.le_of_ble_eq_true rfl) ?_
          refine c_S_knownFlagsOf (k := n.toNat - 1) kA (by omega) (by omega) ?_
          refine x_iret rfl ?_
          exact hQ
        · rw [if_neg w1] at hQ
          have e : am_lk [(0, 40), (1, 51)] 62 w = 62 := by
            unfold am_lk
            rw [if_neg w0]
            unfold am_lk
            rw [if_neg w1]
            rfl
          rw [e]
          refine x_const rfl ?_
          refine x_iret rfl ?_
          exact hQ
    · exact absurd hc (by decide)
  · rw [if_neg hs] at hQ
    refine x_if_ne rfl (fun hc => ?_) (fun hc => ?_)
    · exact absurd rfl hc
    · refine x_const rfl ?_
      refine x_iret rfl ?_
      exact hQ
theorem v_notice {s k w : Int} (h : VR μ S) (hI : IC S) (hQ : Q (some (.inl (sp_notice S s k w))) (nn, ss, μ)) : am_Wp mv_P (d + 3) jV_notice [.inr (some 1), .inl s, .inl k, .inl w] (nn, ss, μ) Q := by
  obtain ⟨E, hX, hj⟩ := h.VX
  have hX' := hX
  obtain ⟨g1, ⟨-, f1, g2, g3⟩, -, g4, -⟩ := hX
  unfold voP at g1
  unfold sp_notice at hQ
  refine am_wp pV_notice (Nat.le_of_ble_eq_true rfl) ?_
  refine x_aload rfl rfl ?_
  refine x_iload rfl rfl ?_
  refine x_callV1 rfl (by assumption) (Nat.le_of_ble_eq_true rfl) ?_
  refine c_V_hasMailbox hX' (fun hs => ?_) (fun hs => ?_)
  · obtain ⟨e1, e2, e3, e4⟩ := hs.mb hI
    obtain ⟨V, T, kA, k2, k3, k4, k5, k6⟩ := g4 s.toNat e3
    refine x_if_eq rfl (fun hc => ?_) (fun hc => ?_)
    · exact absurd hc (by decide)
    · refine x_iload rfl rfl ?_
      refine x_if_lt rfl (fun hc => ?_) (fun hc => ?_)
      · rw [if_neg (fun q => by have := q.2.1; omega)] at hQ
        refine x_const rfl ?_
        refine x_iret rfl ?_
        exact hQ
      · refine x_iload rfl rfl ?_
        refine x_aload rfl rfl ?_
        refine x_get rfl (by assumption) rfl ?_
        refine x_iload rfl rfl ?_
        refine x_aaldN (j := s.toNat) rfl (by assumption) (by omega) (by omega) ?_
        rw [g3 _ e3]
        refine x_callV0 rfl kA.1 (Nat.le_of_ble_eq_true rfl) ?_
        refine c_S_noticeCount kA ?_
        refine x_icmp_lt rfl (fun hc => ?_) (fun hc => ?_)
        · rw [if_pos ⟨hs, by omega, by omega⟩, ← k3 k.toNat (by omega)] at hQ
          rw [show k = ((k.toNat : Nat) : Int) by omega]
          refine x_iload rfl rfl ?_
          refine x_lsw rfl ?_
          by_cases w0 : w = 0
          · rw [if_pos w0] at hQ
            rw [w0]
            show am_Ex mv_P (d + 2) (am_at kV_notice) (56, _, _, _) Q
            refine x_aload rfl rfl ?_
            refine x_get rfl (by assumption) rfl ?_
            refine x_iload rfl rfl ?_
            refine x_aaldN (j := s.toNat) rfl (by assumption) (by omega) (by omega) ?_
            rw [g3 _ e3]
            refine x_iload rfl rfl ?_
            refine x_callV1 rfl kA.1 (Nat.le_of_ble_eq_true rfl) ?_
            refine c_S_noticeKindAt kA (by omega) ?_
            refine x_iret rfl ?_
            exact hQ
          · rw [if_neg w0] at hQ
            by_cases w1 : w = 1
            · rw [if_pos w1] at hQ
              rw [w1]
              show am_Ex mv_P (d + 2) (am_at kV_notice) (67, _, _, _) Q
              refine x_aload rfl rfl ?_
              refine x_get rfl (by assumption) rfl ?_
              refine x_iload rfl rfl ?_
              refine x_aaldN (j := s.toNat) rfl (by assumption) (by omega) (by omega) ?_
              rw [g3 _ e3]
              refine x_iload rfl rfl ?_
              refine x_callV1 rfl kA.1 (Nat.le_of_ble_eq_true rfl) ?_
              refine c_S_noticeNumberAt kA (by omega) ?_
              refine x_iret rfl ?_
              exact hQ
            · rw [if_neg w1] at hQ
              have e : am_lk [(0, 56), (1, 67)] 78 w = 78 := by
                unfold am_lk
                rw [if_neg w0]
                unfold am_lk
                rw [if_neg w1]
                rfl
              rw [e]
              refine x_const rfl ?_
              refine x_iret rfl ?_
              exact hQ
        · rw [if_neg (fun q => by have := q.2.2; omega)] at hQ
          refine x_const rfl ?_
          refine x_iret rfl ?_
          exact hQ
  · rw [if_neg (fun q => hs q.1)] at hQ
    refine x_if_eq rfl (fun hc => ?_) (fun hc => ?_)
    · refine x_const rfl ?_
      refine x_iret rfl ?_
      exact hQ
    · exact absurd rfl hc
theorem v_mailbox {m w : Int} (h : VR μ S) (hQ : Q (some (.inl (sp_mailbox S m w))) (nn, ss, μ)) : am_Wp mv_P (d + 3) jV_mailbox [.inr (some 1), .inl m, .inl w] (nn, ss, μ) Q := by
  obtain ⟨E, hX, hj⟩ := h.VX
  have hX' := hX
  obtain ⟨g1, ⟨⟨f0, g5, g6⟩, -⟩, g7, -⟩ := hX
  unfold voP at g1
  unfold sp_mailbox at hQ
  refine am_wp pV_mailbox (Nat.le_of_ble_eq_true rfl) ?_
  refine x_iload rfl rfl ?_
  refine x_callS1 rfl (Nat.le_of_ble_eq_true rfl) ?_
  refine c_V_isMailbox (fun hm => ?_) (fun hm => ?_)
  · have hb := g7 m.toNat (by omega)
    obtain ⟨fs, hob⟩ := hb.ob
    rw [if_pos hm] at hQ
    refine x_if_ne rfl (fun hc => ?_) (fun hc => ?_)
    · refine x_iload rfl rfl ?_
      refine x_tsw rfl ?_
      by_cases w0 : w = 0
      · rw [if_pos w0] at hQ
        rw [w0]
        show am_Ex mv_P (d + 2) (am_at kV_mailbox) (40, _, _, _) Q
        refine x_aload rfl rfl ?_
        refine x_get rfl (by assumption) rfl ?_
        refine x_iload rfl rfl ?_
        refine x_aaldN (j := m.toNat) rfl (by assumption) (by omega) (by omega) ?_
        rw [g6 _ (by omega)]
        refine x_callV0 rfl (by assumption) (Nat.le_of_ble_eq_true rfl) ?_
        refine d_B_messageCount hb ?_
        refine x_iret rfl ?_
        exact hQ
      · rw [if_neg w0] at hQ
        by_cases w1 : w = 1
        · rw [if_pos w1] at hQ
          rw [w1]
          show am_Ex mv_P (d + 2) (am_at kV_mailbox) (50, _, _, _) Q
          refine x_aload rfl rfl ?_
          refine x_get rfl (by assumption) rfl ?_
          refine x_iload rfl rfl ?_
          refine x_aaldN (j := m.toNat) rfl (by assumption) (by omega) (by omega) ?_
          rw [g6 _ (by omega)]
          refine x_callV0 rfl (by assumption) (Nat.le_of_ble_eq_true rfl) ?_
          refine d_B_nextUid hb ?_
          refine x_iret rfl ?_
          exact hQ
        · rw [if_neg w1] at hQ
          by_cases w2 : w = 2
          · rw [if_pos w2] at hQ
            rw [w2]
            show am_Ex mv_P (d + 2) (am_at kV_mailbox) (60, _, _, _) Q
            refine x_aload rfl rfl ?_
            refine x_get rfl (by assumption) rfl ?_
            refine x_iload rfl rfl ?_
            refine x_aaldN (j := m.toNat) rfl (by assumption) (by omega) (by omega) ?_
            rw [g6 _ (by omega)]
            refine x_callV0 rfl (by assumption) (Nat.le_of_ble_eq_true rfl) ?_
            refine d_B_validity hb ?_
            refine x_iret rfl ?_
            exact hQ
          · rw [if_neg w2] at hQ
            by_cases w3 : w = 3
            · rw [if_pos w3] at hQ
              rw [w3]
              show am_Ex mv_P (d + 2) (am_at kV_mailbox) (70, _, _, _) Q
              refine x_aload rfl rfl ?_
              refine x_iload rfl rfl ?_
              refine x_callV1 rfl (by assumption) (Nat.le_of_ble_eq_true rfl) ?_
              refine c_V_sessionsWith hX' ?_
              refine x_iret rfl ?_
              exact hQ
            · rw [if_neg w3] at hQ
              have e : am_ts 0 [40, 50, 60, 70] 76 w = 76 := by
                unfold am_ts
                rw [if_neg]
                simp only [List.length_cons, List.length_nil]
                omega
              rw [e]
              refine x_const rfl ?_
              refine x_iret rfl ?_
              exact hQ
    · exact absurd hc (by decide)
  · rw [if_neg hm] at hQ
    refine x_if_ne rfl (fun hc => ?_) (fun hc => ?_)
    · exact absurd rfl hc
    · refine x_const rfl ?_
      refine x_iret rfl ?_
      exact hQ
theorem v_count {w : Int} (h : VR μ S) (hI : IC S) (hQ : Q (some (.inl (sp_count S w))) (nn, ss, μ)) : am_Wp mv_P (d + 2) jV_count [.inr (some 1), .inl w] (nn, ss, μ) Q := by
  obtain ⟨E, hX, hj⟩ := h.VX
  obtain ⟨g1, -, -, -, g8, ⟨K, F, Z, c1, c2, c3⟩, -⟩ := hX
  unfold voP at g1
  obtain ⟨i1, i2, i3, i4⟩ := hI.1
  unfold sp_count at hQ
  refine am_wp pV_count (Nat.le_of_ble_eq_true rfl) ?_
  refine x_iload rfl rfl ?_
  refine x_tsw rfl ?_
  by_cases w0 : w = 0
  · rw [if_pos w0] at hQ
    rw [w0]
    show am_Ex mv_P (d + 1) (am_at kV_count) (32, _, _, _) Q
    refine x_aload rfl rfl ?_
    refine x_get rfl g1 rfl ?_
    refine x_callV0 rfl g8.1 (Nat.le_of_ble_eq_true rfl) ?_
    refine c_J_changeCount g8 (by omega) ?_
    refine x_iret rfl ?_
    rw [show ((S.1.2 : Nat) : Int) + ((S.1.1.length - S.1.2 : Nat) : Int) = (S.1.1.length : Int) by omega]
    exact hQ
  · rw [if_neg w0] at hQ
    by_cases w1 : w = 1
    · rw [if_pos w1] at hQ
      rw [w1]
      show am_Ex mv_P (d + 1) (am_at kV_count) (40, _, _, _) Q
      refine x_aload rfl rfl ?_
      refine x_get rfl g1 rfl ?_
      refine x_callV0 rfl g8.1 (Nat.le_of_ble_eq_true rfl) ?_
      refine c_J_durableCount g8 ?_
      refine x_iret rfl ?_
      exact hQ
    · rw [if_neg w1] at hQ
      by_cases w2 : w = 2
      · rw [if_pos w2] at hQ
        rw [w2]
        show am_Ex mv_P (d + 1) (am_at kV_count) (48, _, _, _) Q
        refine x_aload rfl rfl ?_
        refine x_get rfl g1 rfl ?_
        refine x_callV0 rfl c1.1 (Nat.le_of_ble_eq_true rfl) ?_
        refine c_C_tokenCount c1 ?_
        refine x_iret rfl ?_
        exact hQ
      · rw [if_neg w2] at hQ
        by_cases w3 : w = 3
        · rw [if_pos w3] at hQ
          rw [w3]
          show am_Ex mv_P (d + 1) (am_at kV_count) (56, _, _, _) Q
          refine x_aload rfl rfl ?_
          refine x_get rfl (by assumption) rfl ?_
          refine x_iret rfl ?_
          exact hQ
        · rw [if_neg w3] at hQ
          have e : am_ts 0 [32, 40, 48, 56] 61 w = 61 := by
            unfold am_ts
            rw [if_neg]
            simp only [List.length_cons, List.length_nil]
            omega
          rw [e]
          refine x_const rfl ?_
          refine x_iret rfl ?_
          exact hQ
end V7
