/-! the reference: crash, constructor -/
section R10
variable {d nn ss : Nat} {μ0 μ μ' : Nat → Option am_C} {Q : Option am_V → am_M → Prop} {g g' : Nat → Nat → Int} {S : mv_T}
theorem lost_hg {lg : List mv_H} {du : Nat} (m : Int) : (∃ k, du ≤ k ∧ k < lg.length ∧ (hg lg k).1 = 1 ∧ (hg lg k).2.1 = m) ↔ lost lg du m = true := by
  unfold lost
  rw [List.any_eq_true]
  constructor
  · rintro ⟨k, hk1, hk2, h1, h2⟩
    refine ⟨hg lg k, ?_, ?_⟩
    · rw [List.mem_drop_iff_getElem]
      refine ⟨k - du, by omega, ?_⟩
      unfold hg
      rw [List.getD_eq_getElem?_getD, List.getElem?_eq_getElem (by omega)]
      simp only [show du + (k - du) = k by omega]
      rfl
    · rw [Bool.and_eq_true]
      exact ⟨decide_eq_true h1, decide_eq_true h2⟩
  · rintro ⟨c, hc, h⟩
    rw [Bool.and_eq_true] at h
    obtain ⟨i, hi, rfl⟩ := List.getElem_of_mem hc
    rw [List.length_drop] at hi
    have e : (lg.drop du)[i] = hg lg (du + i) := by
      unfold hg
      rw [List.getD_eq_getElem?_getD, List.getElem?_eq_getElem (by omega)]
      simp
    rw [e] at h
    exact ⟨du + i, by omega, by omega, of_decide_eq_true h.1, of_decide_eq_true h.2⟩
set_option maxRecDepth 20000 in
theorem m_crash (h : RR μ0 μ S) (hI : LI S.1.1 S.1.2) (hl : S.1.1.length < 1500) (hvl : ∀ m, m < 3 → 0 ≤ S.2.1 m ∧ S.2.1 m < 50000) (hQ : ∀ μ', RR μ0 μ' (sp_crash S) → Q (some (.inl S.1.2)) (nn, ss, μ')) : am_Wp mv_P (d + 3) jM_crash [.inr (some 50)] (nn, ss, μ) Q := by
  obtain ⟨g, ⟨⟨h, hL, hB⟩, h2, h3, h4, h5⟩⟩ := h
  obtain ⟨i1, i2, i3, i4⟩ := id hI
  have el : (S.1.1.take S.1.2).length = S.1.2 := by rw [List.length_take]; omega
  -- the sessions
  have loop3 : ∀ (r i : Nat) (μ : Nat → Option am_C) (G : Nat → Nat → Int) (x2 x3 : Option am_V), i + r = 4 → mR μ0 μ G S.1.2 S.1.2 S.2.2.2.1.length S.2.2.2.2.length → G 0 = g 0 → RB G (rp (S.1.1.take S.1.2)) → (∀ m, m < 3 → G 4 m = vlC S 3 m) → (∀ k, k < i → G 5 k = -1) → (∀ j, 5 < j → G j = g j) → am_Ex mv_P (d + 2) (am_at kM_crash) (121, [some (.inr (some 50)), some (.inl (i : Int)), x2, x3], [], nn, ss, μ) Q := by
    intro r
    induction r with
    | zero =>
      intro i μ G x2 x3 hi h G0 hB' G4 G5 Go
      refine x_iload rfl rfl ?_
      refine x_const rfl ?_
      refine x_icmp_ge rfl (fun hc => ?_) (fun hc => ?_)
      · refine x_aload rfl rfl ?_
        refine x_get rfl h.o rfl ?_
        refine x_iret rfl ?_
        refine hQ μ ⟨G, ⟨?_, ?_, hB'⟩, fun m hm => ?_, fun s hs => ?_, h4.cg (Go 13 (by decide)), h5.cg (Go 14 (by decide))⟩
        · show mR μ0 μ G ((S.1.1.take S.1.2).length : Nat) S.1.2 _ _
          rw [el]
          exact h
        · intro k hk
          have hk : k < (S.1.1.take S.1.2).length := hk
          rw [el] at hk
          show G 0 (5 * k) = (hg (S.1.1.take S.1.2) k).1 ∧ G 0 (5 * k + 1) = (hg (S.1.1.take S.1.2) k).2.1 ∧ G 0 (5 * k + 2) = (hg (S.1.1.take S.1.2) k).2.2.1 ∧ G 0 (5 * k + 3) = (hg (S.1.1.take S.1.2) k).2.2.2.1 ∧ G 0 (5 * k + 4) = (hg (S.1.1.take S.1.2) k).2.2.2.2
          have e : hg (S.1.1.take S.1.2) k = hg S.1.1 k := by
            unfold hg
            rw [List.getD_eq_getElem?_getD, List.getD_eq_getElem?_getD, List.getElem?_take_of_lt hk]
          rw [e, G0]
          exact hL k (by show k < S.1.1.length; omega)
        · rw [G4 m hm]
          show vlC S 3 m = if lost S.1.1 S.1.2 m = true then S.2.1 m + 1 else S.2.1 m
          unfold vlC
          by_cases hl : lost S.1.1 S.1.2 m = true
          · rw [if_pos ⟨by omega, hl⟩, if_pos hl]
          · rw [if_neg (fun q => hl q.2), if_neg hl]
        · refine ⟨?_, ?_, ?_, fun h0 => ?_⟩
          · rw [G5 s (by omega)]
            rfl
          · exact Int.le_refl (-1)
          · show (-1 : Int) < 3
            decide
          · have h0 : (0 : Int) ≤ -1 := h0
            exact absurd h0 (by decide)
      · exact absurd hc (by omega)
    | succ r ih =>
      intro i μ G x2 x3 hi h G0 hB' G4 G5 Go
      refine x_iload rfl rfl ?_
      refine x_const rfl ?_
      refine x_icmp_ge rfl (fun hc => ?_) (fun hc => ?_)
      · exact absurd hc (by omega)
      · refine x_aload rfl rfl ?_
        refine x_get rfl h.o rfl ?_
        refine x_iload rfl rfl ?_
        refine x_const rfl ?_
        refine x_iastN (j := i) rfl h.a5 (by omega) (by omega) rfl (fun μ e o => ?_)
        replace h := h.st (j := 5) (Nat.le_of_ble_eq_true rfl) e o
        clear e o
        refine x_iinc rfl rfl ⟨by omega, by omega⟩ ?_
        refine x_goto rfl ?_
        refine ih (i + 1) _ _ x2 x3 (by omega) h G0 (hB'.cg rfl rfl rfl) G4 (fun k hk => ?_) (fun j hj => ?_)
        · show am_fu (G 5) i (-1) k = -1
          by_cases hki : k = i
          · rw [hki, am_fu_s]
          · rw [am_fu_n hki]
            exact G5 k (by omega)
        · rw [am_fu_n (by omega)]
          exact Go j hj
  -- the replay
  have loop2 : ∀ (r i : Nat) (μ : Nat → Option am_C) (G : Nat → Nat → Int) (x2 x3 : Option am_V), i + r = S.1.2 → mR μ0 μ G S.1.2 S.1.2 S.2.2.2.1.length S.2.2.2.2.length → G 0 = g 0 → RB G (rp (S.1.1.take i)) → (∀ m, m < 3 → G 4 m = vlC S 3 m) → (∀ j, 5 < j → G j = g j) → am_Ex mv_P (d + 2) (am_at kM_crash) (100, [some (.inr (some 50)), some (.inl (i : Int)), x2, x3], [], nn, ss, μ) Q := by
    intro r
    induction r with
    | zero =>
      intro i μ G x2 x3 hi h G0 hB' G4 Go
      have ei : i = S.1.2 := by omega
      refine x_iload rfl rfl ?_
      refine x_aload rfl rfl ?_
      refine x_get rfl h.o rfl ?_
      refine x_icmp_ge rfl (fun hc => ?_) (fun hc => ?_)
      · refine x_const rfl ?_
        refine x_istore rfl (Nat.le_of_ble_eq_true rfl) ?_
        rw [ei] at hB'
        exact loop3 4 0 μ G x2 x3 rfl h G0 hB' G4 (fun k hk => absurd hk (Nat.not_lt_zero _)) Go
      · exact absurd hc (by omega)
    | succ r ih =>
      intro i μ G x2 x3 hi h G0 hB' G4 Go
      obtain ⟨hm, hv⟩ := i1 i (by omega)
      obtain ⟨c0, c1, c2, c3, c4⟩ := hL i (by show i < S.1.1.length; omega)
      have ec : hg S.1.1 i = ((hg S.1.1 i).1, (((hg S.1.1 i).2.1.toNat : Nat) : Int), (hg S.1.1 i).2.2.1, (hg S.1.1 i).2.2.2.1, (hg S.1.1 i).2.2.2.2) := by
        rw [show (((hg S.1.1 i).2.1.toNat : Nat) : Int) = (hg S.1.1 i).2.1 by omega]
      have em : (hg S.1.1 i).2.1 = (((hg S.1.1 i).2.1.toNat : Nat) : Int) := by omega
      have hv' : vc ((hg S.1.1 i).1, (((hg S.1.1 i).2.1.toNat : Nat) : Int), (hg S.1.1 i).2.2.1, (hg S.1.1 i).2.2.2.1, (hg S.1.1 i).2.2.2.2) (rp (S.1.1.take i) (hg S.1.1 i).2.1.toNat) := by
        rw [← em]
        exact hv
      have hw := lg_wb i1 i (by omega)
      have hnx := rp_nx i1 i (by omega) (hg S.1.1 i).2.1.toNat
      have hu := vc_u hv (hw _) (by omega)
      refine x_iload rfl rfl ?_
      refine x_aload rfl rfl ?_
      refine x_get rfl h.o rfl ?_
      refine x_icmp_ge rfl (fun hc => ?_) (fun hc => ?_)
      · exact absurd hc (by omega)
      · refine x_aload rfl rfl ?_
        refine x_iload rfl rfl ?_
        refine x_callV1 rfl h.o (Nat.le_of_ble_eq_true rfl) ?_
        refine c_M_apply (i := i) (m := (hg S.1.1 i).2.1.toNat) h hB' (by omega) ((congrFun G0 _).trans c0) ((congrFun G0 _).trans (c1.trans em)) ((congrFun G0 _).trans c2) ((congrFun G0 _).trans c3) ((congrFun G0 _).trans c4) (by omega) (fun x _ => (hw x).2.1) hu hv' (fun μ1 g1 h1 hB1 Go1 => ?_)
        have hB1 : RB g1 (apS (rp (S.1.1.take i)) ((hg S.1.1 i).1, (((hg S.1.1 i).2.1.toNat : Nat) : Int), (hg S.1.1 i).2.2.1, (hg S.1.1 i).2.2.2.1, (hg S.1.1 i).2.2.2.2)) := hB1
        rw [← ec, ← rp_s (by omega)] at hB1
        refine x_iinc rfl rfl ⟨by omega, by omega⟩ ?_
        refine x_goto rfl ?_
        exact ih (i + 1) μ1 g1 x2 x3 (by omega) h1 (by rw [Go1 0 (by omega)]; exact G0) hB1 (fun m hm => by rw [Go1 4 (by omega)]; exact G4 m hm) (fun j hj => by rw [Go1 j (by omega)]; exact Go j hj)
  -- the mailboxes
  have loop1 : ∀ (r i : Nat) (μ : Nat → Option am_C) (G : Nat → Nat → Int) (x2 x3 : Option am_V), i + r = 3 → mR μ0 μ G S.1.1.length S.1.2 S.2.2.2.1.length S.2.2.2.2.length → G 0 = g 0 → (∀ m, m < i → G 1 m = 0 ∧ G 3 m = 1) → (∀ m, m < 3 → G 4 m = vlC S i m) → (∀ j, 5 < j → G j = g j) → am_Ex mv_P (d + 2) (am_at kM_crash) (2, [some (.inr (some 50)), some (.inl (i : Int)), x2, x3], [], nn, ss, μ) Q := by
    intro r
    induction r with
    | zero =>
      intro i μ G x2 x3 hi h G0 G13 G4 Go
      have ei : i = 3 := by omega
      subst ei
      refine x_iload rfl rfl ?_
      refine x_const rfl ?_
      refine x_icmp_ge rfl (fun hc => ?_) (fun hc => ?_)
      · refine x_aload rfl rfl ?_
        refine x_aload rfl rfl ?_
        refine x_get rfl h.o rfl ?_
        refine x_putG rfl h.o (Nat.le_of_ble_eq_true rfl) rfl (fun μ e o => ?_)
        replace h := h.pt e o
        clear e o
        refine x_const rfl ?_
        refine x_istore rfl (Nat.le_of_ble_eq_true rfl) ?_
        refine loop2 S.1.2 0 _ G x2 x3 (by omega) h G0 (fun m hm => ?_) G4 Go
        rw [List.take_zero, rp_nil]
        exact ⟨(G13 m hm).1, (G13 m hm).2, fun k hk => absurd hk (Nat.not_lt_zero _)⟩
      · exact absurd hc (by decide)
    | succ r ih =>
      intro i μ G x2 x3 hi h G0 G13 G4 Go
      have hv := hvl i (by omega)
      have ev : vlC S i i = S.2.1 i := by
        unfold vlC
        rw [if_neg (fun q => absurd q.1 (by omega))]
      have tail : ∀ (μ : Nat → Option am_C) (G' : Nat → Nat → Int) (x2 x3 : Option am_V), mR μ0 μ G' S.1.1.length S.1.2 S.2.2.2.1.length S.2.2.2.2.length → (∀ j, j ≠ 4 → G' j = G j) → (∀ m, m < 3 → G' 4 m = vlC S (i + 1) m) → am_Ex mv_P (d + 2) (am_at kM_crash) (70, [some (.inr (some 50)), some (.inl (i : Int)), x2, x3], [], nn, ss, μ) Q := by
        intro μ G' x2 x3 h Ge G4'
        refine x_aload rfl rfl ?_
        refine x_get rfl h.o rfl ?_
        refine x_iload rfl rfl ?_
        refine x_const rfl ?_
        refine x_iastN (j := i) rfl h.a1 (by omega) (by omega) rfl (fun μ e o => ?_)
        replace h := h.st (j := 1) (Nat.le_of_ble_eq_true rfl) e o
        clear e o
        refine x_aload rfl rfl ?_
        refine x_get rfl h.o rfl ?_
        refine x_iload rfl rfl ?_
        refine x_const rfl ?_
        refine x_iastN (j := i) rfl h.a3 (by omega) (by omega) rfl (fun μ e o => ?_)
        replace h := h.st (j := 3) (Nat.le_of_ble_eq_true rfl) e o
        clear e o
        refine x_iinc rfl rfl ⟨by omega, by omega⟩ ?_
        refine x_goto rfl ?_
        refine ih (i + 1) _ _ x2 x3 (by omega) h ?_ (fun m hm => ?_) G4' (fun j hj => ?_)
        · rw [am_fu_n (by decide), am_fu_n (by decide), Ge 0 (by decide)]
          exact G0
        · show am_fu (G' 1) i 0 m = 0 ∧ am_fu (G' 3) i 1 m = 1
          by_cases hmi : m = i
          · rw [hmi, am_fu_s, am_fu_s]
            exact ⟨rfl, rfl⟩
          · rw [am_fu_n hmi, am_fu_n hmi, Ge 1 (by decide), Ge 3 (by decide)]
            exact G13 m (by omega)
        · rw [am_fu_n (by omega), am_fu_n (by omega), Ge j (by omega)]
          exact Go j hj
      have inner : ∀ (q c : Nat) (b : Int), c + q = S.1.1.length → S.1.2 ≤ c → ((b = 1 ∧ ∃ k, S.1.2 ≤ k ∧ k < c ∧ (hg S.1.1 k).1 = 1 ∧ (hg S.1.1 k).2.1 = (i : Int)) ∨ (b = 0 ∧ ¬ ∃ k, S.1.2 ≤ k ∧ k < c ∧ (hg S.1.1 k).1 = 1 ∧ (hg S.1.1 k).2.1 = (i : Int))) → am_Ex mv_P (d + 2) (am_at kM_crash) (14, [some (.inr (some 50)), some (.inl (i : Int)), some (.inl b), some (.inl (c : Int))], [], nn, ss, μ) Q := by
        intro q
        induction q with
        | zero =>
          intro c b hc1 hc2 hb
          have ec : c = S.1.1.length := by omega
          rw [ec, lost_hg] at hb
          refine x_iload rfl rfl ?_
          refine x_aload rfl rfl ?_
          refine x_get rfl h.o rfl ?_
          refine x_icmp_ge rfl (fun hc => ?_) (fun hc => ?_)
          · refine x_iload rfl rfl ?_
            refine x_if_eq rfl (fun hc => ?_) (fun hc => ?_)
            · -- not lost
              have hnl : ¬ lost S.1.1 S.1.2 i = true := by
                rcases hb with ⟨b1, -⟩ | ⟨-, b2⟩
                · omega
                · exact b2
              refine tail μ G _ _ h (fun _ _ => rfl) (fun m hm => ?_)
              rw [G4 m hm]
              unfold vlC
              by_cases hmi : m = i
              · rw [hmi, if_neg (by omega), if_neg (fun q => hnl q.2)]
              · by_cases hm3 : m < i ∧ lost S.1.1 S.1.2 m = true
                · rw [if_pos hm3, if_pos ⟨by omega, hm3.2⟩]
                · rw [if_neg hm3, if_neg (fun q => hm3 ⟨by omega, q.2⟩)]
            · have hnl : lost S.1.1 S.1.2 i = true := by
                rcases hb with ⟨-, b2⟩ | ⟨b1, -⟩
                · exact b2
                · omega
              refine x_aload rfl rfl ?_
              refine x_get rfl h.o rfl ?_
              refine x_iload rfl rfl ?_
              refine x_dup2 rfl ?_
              refine x_rd (j := i) rfl h.a4 (by omega) (by omega) ((G4 i (by omega)).trans ev) ?_
              refine x_const rfl ?_
              refine x_iadd rfl ⟨by omega, by omega⟩ ?_
              refine x_iastN (j := i) rfl h.a4 (by omega) (by omega) rfl (fun μ e o => ?_)
              replace h := h.st (j := 4) (Nat.le_of_ble_eq_true rfl) e o
              clear e o
              refine tail _ _ _ _ h (fun j hj => am_fu_n hj) (fun m hm => ?_)
              show am_fu (G 4) i (S.2.1 i + 1) m = _
              unfold vlC
              by_cases hmi : m = i
              · rw [hmi, am_fu_s, if_pos ⟨by omega, hnl⟩]
              · rw [am_fu_n hmi, G4 m hm]
                unfold vlC
                by_cases hm3 : m < i ∧ lost S.1.1 S.1.2 m = true
                · rw [if_pos hm3, if_pos ⟨by omega, hm3.2⟩]
                · rw [if_neg hm3, if_neg (fun q => hm3 ⟨by omega, q.2⟩)]
          · exact absurd hc (by omega)
        | succ q ihq =>
          intro c b hc1 hc2 hb
          obtain ⟨c0, c1, -⟩ := hL c (by show c < S.1.1.length; omega)
          refine x_iload rfl rfl ?_
          refine x_aload rfl rfl ?_
          refine x_get rfl h.o rfl ?_
          refine x_icmp_ge rfl (fun hc => ?_) (fun hc => ?_)
          · exact absurd hc (by omega)
          · have no : ¬ ((hg S.1.1 c).1 = 1 ∧ (hg S.1.1 c).2.1 = (i : Int)) → am_Ex mv_P (d + 2) (am_at kM_crash) (50, [some (.inr (some 50)), some (.inl (i : Int)), some (.inl b), some (.inl (c : Int))], [], nn, ss, μ) Q := by
              intro hno
              refine x_iinc rfl rfl ⟨by omega, by omega⟩ ?_
              refine x_goto rfl ?_
              refine ihq (c + 1) b (by omega) (by omega) ?_
              rcases hb with ⟨b1, k, k1, k2, k3, k4⟩ | ⟨b1, b2⟩
              · exact Or.inl ⟨b1, k, k1, by omega, k3, k4⟩
              · refine Or.inr ⟨b1, ?_⟩
                rintro ⟨k, k1, k2, k3, k4⟩
                by_cases hkc : k = c
                · rw [hkc] at k3 k4
                  exact hno ⟨k3, k4⟩
                · exact b2 ⟨k, k1, by omega, k3, k4⟩
            refine x_aload rfl rfl ?_
            refine x_get rfl h.o rfl ?_
            refine x_const rfl ?_
            refine x_iload rfl rfl ?_
            refine x_imul rfl ⟨by omega, by omega⟩ ?_
            refine x_rd (j := 5 * c) rfl h.a0 (by omega) (by omega) ((congrFun G0 _).trans c0) ?_
            refine x_const rfl ?_
            refine x_icmp_ne rfl (fun hc => ?_) (fun hc => ?_)
            · exact no (fun q => hc q.1)
            · rename_i hc9
              have h1 := Classical.not_not.mp hc
              refine x_aload rfl rfl ?_
              refine x_get rfl h.o rfl ?_
              refine x_const rfl ?_
              refine x_iload rfl rfl ?_
              refine x_imul rfl ⟨by omega, by omega⟩ ?_
              refine x_const rfl ?_
              refine x_iadd rfl ⟨by omega, by omega⟩ ?_
              refine x_rd (j := 5 * c + 1) rfl h.a0 (by omega) (by omega) ((congrFun G0 _).trans c1) ?_
              refine x_iload rfl rfl ?_
              refine x_icmp_ne rfl (fun hc => ?_) (fun hc => ?_)
              · exact no (fun q => hc q.2)
              · refine x_const rfl ?_
                refine x_istore rfl (Nat.le_of_ble_eq_true rfl) ?_
                refine x_iinc rfl rfl ⟨by omega, by omega⟩ ?_
                refine x_goto rfl ?_
                exact ihq (c + 1) 1 (by omega) (by omega) (Or.inl ⟨rfl, c, hc2, by omega, h1, Classical.not_not.mp hc⟩)
      refine x_iload rfl rfl ?_
      refine x_const rfl ?_
      refine x_icmp_ge rfl (fun hc => ?_) (fun hc => ?_)
      · exact absurd hc (by omega)
      · refine x_const rfl ?_
        refine x_istore rfl (Nat.le_of_ble_eq_true rfl) ?_
        refine x_aload rfl rfl ?_
        refine x_get rfl h.o rfl ?_
        refine x_istore rfl (Nat.le_of_ble_eq_true rfl) ?_
        refine inner (S.1.1.length - S.1.2) S.1.2 0 (by omega) (Nat.le_refl _) (Or.inr ⟨rfl, ?_⟩)
        rintro ⟨k, k1, k2, -⟩
        omega
  refine am_wp pM_crash (Nat.le_of_ble_eq_true rfl) ?_
  refine x_const rfl ?_
  refine x_istore rfl (Nat.le_of_ble_eq_true rfl) ?_
  refine loop1 3 0 μ g none none rfl h rfl (fun m hm => absurd hm (Nat.not_lt_zero _)) (fun m hm => ?_) (fun _ _ => rfl)
  rw [h2 m hm]
  unfold vlC
  rw [if_neg (fun q => absurd q.1 (Nat.not_lt_zero _))]
def PI (μ0 μ : Nat → Option am_C) (n : Nat) (fs : List am_V) : Prop := μ 50 = some (.inl (5, fs)) ∧ (∀ j, j < n → μ (51 + j) = some (.inr (.inl ((mSz.getD j (0, 0)).1, (mSz.getD j (0, 0)).2, fun _ => 0)))) ∧ fr μ0 μ 50 68
theorem PI.nx {n ty sz : Nat} {fs fs' : List am_V} (h : PI μ0 μ n fs) (hn : n < 17) (h1 : μ' 50 = some (.inl (5, fs'))) (e : μ' (51 + n) = some (.inr (.inl (ty, sz, fun _ => 0)))) (f : ∀ x, x ≠ 50 → x ≠ 51 + n → μ' x = μ x) (hs : mSz.getD n (0, 0) = (ty, sz)) : PI μ0 μ' (n + 1) fs' := by
  obtain ⟨q1, q2, q3⟩ := h
  refine ⟨h1, fun j hj => ?_, fun x hx => by rw [f x (by omega) (by omega)]; exact q3 x hx⟩
  by_cases hjn : j = n
  · rw [hjn, e, hs]
  · rw [f _ (by omega) (by omega)]
    exact q2 j (by omega)
set_option maxRecDepth 20000 in
theorem c_M_init (hf : fr μ0 μ 50 68) (hm : μ 50 = some (.inl (5, [.inl 0, .inl 0, .inr none, .inr none, .inr none, .inr none, .inr none, .inr none, .inr none, .inr none, .inr none, .inr none, .inr none, .inr none, .inr none, .inl 0, .inr none, .inl 0, .inr none, .inr none, .inr none]))) (hQ : ∀ μ' ss', RR μ0 μ' mv_S0 → ss' ≤ ss + 10000 → Q none (68, ss', μ')) : am_Wp mv_P (d + 2) jM_init [.inr (some 50)] (51, ss, μ) Q := by
  have loop2 : ∀ (r i : Nat) (μ : Nat → Option am_C) (G : Nat → Nat → Int) (ss' : Nat), ss' ≤ ss + 10000 → i + r = 4 → mR μ0 μ G 0 0 0 0 → (∀ m, m < 3 → G 1 m = 0 ∧ G 3 m = 1 ∧ G 4 m = 1) → (∀ k, k < i → G 5 k = -1) → am_Ex mv_P (d + 1) (am_at kM_init) (163, [some (.inr (some 50)), some (.inl (i : Int))], [], 68, ss', μ) Q := by
    intro r
    induction r with
    | zero =>
      intro i μ G ss' hss hi h G1 G5
      refine x_iload rfl rfl ?_
      refine x_const rfl ?_
      refine x_icmp_ge rfl (fun hc => ?_) (fun hc => ?_)
      · refine x_vret rfl ?_
        refine hQ μ ss' ⟨G, ⟨h, fun i hi => absurd hi (Nat.not_lt_zero _), fun m hm => ⟨(G1 m hm).1, (G1 m hm).2.1, fun k hk => absurd hk (Nat.not_lt_zero _)⟩⟩, fun m hm => (G1 m hm).2.2, fun s hs => ⟨G5 s (by omega), Int.le_refl (-1), by show (-1 : Int) < 3; decide, fun h0 => ?_⟩, ⟨Nat.zero_le _, fun k hk => absurd hk (Nat.not_lt_zero _)⟩, ⟨Nat.zero_le _, fun k hk => absurd hk (Nat.not_lt_zero _)⟩⟩ hss
        have h0 : (0 : Int) ≤ -1 := h0
        exact absurd h0 (by decide)
      · exact absurd hc (by omega)
    | succ r ih =>
      intro i μ G ss' hss hi h G1 G5
      refine x_iload rfl rfl ?_
      refine x_const rfl ?_
      refine x_icmp_ge rfl (fun hc => ?_) (fun hc => ?_)
      · exact absurd hc (by omega)
      · refine x_aload rfl rfl ?_
        refine x_get rfl h.o rfl ?_
        refine x_iload rfl rfl ?_
        refine x_const rfl ?_
        refine x_iastN (j := i) rfl h.a5 (by omega) (by omega) rfl (fun μ e o => ?_)
        replace h := h.st (j := 5) (Nat.le_of_ble_eq_true rfl) e o
        clear e o
        refine x_iinc rfl rfl ⟨by omega, by omega⟩ ?_
        refine x_goto rfl ?_
        refine ih (i + 1) _ _ ss' hss (by omega) h G1 (fun k hk => ?_)
        show am_fu (G 5) i (-1) k = -1
        by_cases hki : k = i
        · rw [hki, am_fu_s]
        · rw [am_fu_n hki]
          exact G5 k (by omega)
  have loop1 : ∀ (r i : Nat) (μ : Nat → Option am_C) (G : Nat → Nat → Int) (ss' : Nat), ss' ≤ ss + 10000 → i + r = 3 → mR μ0 μ G 0 0 0 0 → (∀ m, m < 3 → G 1 m = 0) → (∀ m, m < i → G 3 m = 1 ∧ G 4 m = 1) → am_Ex mv_P (d + 1) (am_at kM_init) (136, [some (.inr (some 50)), some (.inl (i : Int))], [], 68, ss', μ) Q := by
    intro r
    induction r with
    | zero =>
      intro i μ G ss' hss hi h G1 G3
      refine x_iload rfl rfl ?_
      refine x_const rfl ?_
      refine x_icmp_ge rfl (fun hc => ?_) (fun hc => ?_)
      · refine x_const rfl ?_
        refine x_istore rfl (Nat.le_of_ble_eq_true rfl) ?_
        exact loop2 4 0 μ G ss' hss rfl h (fun m hm => ⟨G1 m hm, G3 m (by omega)⟩) (fun k hk => absurd hk (Nat.not_lt_zero _))
      · exact absurd hc (by omega)
    | succ r ih =>
      intro i μ G ss' hss hi h G1 G3
      refine x_iload rfl rfl ?_
      refine x_const rfl ?_
      refine x_icmp_ge rfl (fun hc => ?_) (fun hc => ?_)
      · exact absurd hc (by omega)
      · refine x_aload rfl rfl ?_
        refine x_get rfl h.o rfl ?_
        refine x_iload rfl rfl ?_
        refine x_const rfl ?_
        refine x_iastN (j := i) rfl h.a3 (by omega) (by omega) rfl (fun μ e o => ?_)
        replace h := h.st (j := 3) (Nat.le_of_ble_eq_true rfl) e o
        clear e o
        refine x_aload rfl rfl ?_
        refine x_get rfl h.o rfl ?_
        refine x_iload rfl rfl ?_
        refine x_const rfl ?_
        refine x_iastN (j := i) rfl h.a4 (by omega) (by omega) rfl (fun μ e o => ?_)
        replace h := h.st (j := 4) (Nat.le_of_ble_eq_true rfl) e o
        clear e o
        refine x_iinc rfl rfl ⟨by omega, by omega⟩ ?_
        refine x_goto rfl ?_
        refine ih (i + 1) _ _ ss' hss (by omega) h G1 (fun m hm => ?_)
        show am_fu (G 3) i 1 m = 1 ∧ am_fu (G 4) i 1 m = 1
        by_cases hmi : m = i
        · rw [hmi, am_fu_s, am_fu_s]
          exact ⟨rfl, rfl⟩
        · rw [am_fu_n hmi, am_fu_n hmi]
          exact G3 m (by omega)
  have p0 : PI μ0 μ 0 _ := ⟨hm, fun j hj => absurd hj (Nat.not_lt_zero _), hf⟩
  refine am_wp pM_init (Nat.le_of_ble_eq_true rfl) ?_
  refine x_obj rfl rfl rfl rfl (Nat.le_of_ble_eq_true rfl) ?_
  refine x_arr (N := 8000) rfl rfl rfl rfl rfl (by decide) p0.1 (by decide) (Nat.le_of_ble_eq_true rfl) (fun μ h1 e1 f1 => ?_)
  have p1 := p0.nx (n := 0) (by decide) h1 e1 f1 rfl
  clear h1 e1 f1
  refine x_arr (N := 3) rfl rfl rfl rfl rfl (by decide) p1.1 (by decide) (Nat.le_of_ble_eq_true rfl) (fun μ h1 e1 f1 => ?_)
  have p2 := p1.nx (n := 1) (by decide) h1 e1 f1 rfl
  clear h1 e1 f1
  refine x_arr (N := 108) rfl rfl rfl rfl rfl (by decide) p2.1 (by decide) (Nat.le_of_ble_eq_true rfl) (fun μ h1 e1 f1 => ?_)
  have p3 := p2.nx (n := 2) (by decide) h1 e1 f1 rfl
  clear h1 e1 f1
  refine x_arr (N := 3) rfl rfl rfl rfl rfl (by decide) p3.1 (by decide) (Nat.le_of_ble_eq_true rfl) (fun μ h1 e1 f1 => ?_)
  have p4 := p3.nx (n := 3) (by decide) h1 e1 f1 rfl
  clear h1 e1 f1
  refine x_arr (N := 3) rfl rfl rfl rfl rfl (by decide) p4.1 (by decide) (Nat.le_of_ble_eq_true rfl) (fun μ h1 e1 f1 => ?_)
  have p5 := p4.nx (n := 4) (by decide) h1 e1 f1 rfl
  clear h1 e1 f1
  refine x_arr (N := 4) rfl rfl rfl rfl rfl (by decide) p5.1 (by decide) (Nat.le_of_ble_eq_true rfl) (fun μ h1 e1 f1 => ?_)
  have p6 := p5.nx (n := 5) (by decide) h1 e1 f1 rfl
  clear h1 e1 f1
  refine x_arr (N := 4) rfl rfl rfl rfl rfl (by decide) p6.1 (by decide) (Nat.le_of_ble_eq_true rfl) (fun μ h1 e1 f1 => ?_)
  have p7 := p6.nx (n := 6) (by decide) h1 e1 f1 rfl
  clear h1 e1 f1
  refine x_arr (N := 4) rfl rfl rfl rfl rfl (by decide) p7.1 (by decide) (Nat.le_of_ble_eq_true rfl) (fun μ h1 e1 f1 => ?_)
  have p8 := p7.nx (n := 7) (by decide) h1 e1 f1 rfl
  clear h1 e1 f1
  refine x_arr (N := 96) rfl rfl rfl rfl rfl (by decide) p8.1 (by decide) (Nat.le_of_ble_eq_true rfl) (fun μ h1 e1 f1 => ?_)
  have p9 := p8.nx (n := 8) (by decide) h1 e1 f1 rfl
  clear h1 e1 f1
  refine x_arr (N := 96) rfl rfl rfl rfl rfl (by decide) p9.1 (by decide) (Nat.le_of_ble_eq_true rfl) (fun μ h1 e1 f1 => ?_)
  have p10 := p9.nx (n := 9) (by decide) h1 e1 f1 rfl
  clear h1 e1 f1
  refine x_arr (N := 4) rfl rfl rfl rfl rfl (by decide) p10.1 (by decide) (Nat.le_of_ble_eq_true rfl) (fun μ h1 e1 f1 => ?_)
  have p11 := p10.nx (n := 10) (by decide) h1 e1 f1 rfl
  clear h1 e1 f1
  refine x_arr (N := 4) rfl rfl rfl rfl rfl (by decide) p11.1 (by decide) (Nat.le_of_ble_eq_true rfl) (fun μ h1 e1 f1 => ?_)
  have p12 := p11.nx (n := 11) (by decide) h1 e1 f1 rfl
  clear h1 e1 f1
  refine x_arr (N := 400) rfl rfl rfl rfl rfl (by decide) p12.1 (by decide) (Nat.le_of_ble_eq_true rfl) (fun μ h1 e1 f1 => ?_)
  have p13 := p12.nx (n := 12) (by decide) h1 e1 f1 rfl
  clear h1 e1 f1
  refine x_arr (N := 42) rfl rfl rfl rfl rfl (by decide) p13.1 (by decide) (Nat.le_of_ble_eq_true rfl) (fun μ h1 e1 f1 => ?_)
  have p14 := p13.nx (n := 13) (by decide) h1 e1 f1 rfl
  clear h1 e1 f1
  refine x_arr (N := 24) rfl rfl rfl rfl rfl (by decide) p14.1 (by decide) (Nat.le_of_ble_eq_true rfl) (fun μ h1 e1 f1 => ?_)
  have p15 := p14.nx (n := 14) (by decide) h1 e1 f1 rfl
  clear h1 e1 f1
  refine x_arr (N := 20) rfl rfl rfl rfl rfl (by decide) p15.1 (by decide) (Nat.le_of_ble_eq_true rfl) (fun μ h1 e1 f1 => ?_)
  have p16 := p15.nx (n := 15) (by decide) h1 e1 f1 rfl
  clear h1 e1 f1
  refine x_arr (N := 20) rfl rfl rfl rfl rfl (by decide) p16.1 (by decide) (Nat.le_of_ble_eq_true rfl) (fun μ h1 e1 f1 => ?_)
  have p17 := p16.nx (n := 16) (by decide) h1 e1 f1 rfl
  clear h1 e1 f1
  refine x_const rfl ?_
  refine x_istore rfl (Nat.le_of_ble_eq_true rfl) ?_
  refine loop1 3 0 _ (fun _ _ => 0) _ (by omega) rfl ⟨p17.1, p17.2.1, p17.2.2⟩ (fun _ _ => rfl) (fun m hm => absurd hm (Nat.not_lt_zero _))
end R10
