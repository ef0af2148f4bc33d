/-! the reference: gather, update -/
section R6
variable {d nn ss : Nat} {μ0 μ : Nat → Option am_C} {Q : Option am_V → am_M → Prop} {g : Nat → Nat → Int} {c e t f : Int} {B : Nat → mv_B}
theorem c_M_gather {s m : Nat} {v : List mv_V} {hi : Int} (h : mR μ0 μ g c e t f) (hb : RB g B) (hs : s < 4) (hm : g 5 s = m) (hm3 : m < 3) (h12 : (B m).1.length ≤ 12) (hv : RV g s v) (hh : g 10 s = hi) (hQ : ∀ μ' g', mR μ0 μ' g' c e t f → RV g' s (ga (B m).1 (v, hi)).1 → g' 10 s = (ga (B m).1 (v, hi)).2 → (∀ j, j ≠ 7 → j ≠ 8 → j ≠ 9 → j ≠ 10 → g' j = g j) → sF g g' s → Q (some (.inl (((ga (B m).1 (v, hi)).1.length : Int) - v.length))) (nn, ss, μ')) : am_Wp mv_P (d + 1) jM_gather [.inr (some 50), .inl s] (nn, ss, μ) Q := by
  obtain ⟨b1, b2, b3⟩ := hb m hm3
  have hv24 := hv.1.2
  have loop : ∀ (r k : Nat) (μ : Nat → Option am_C) (G : Nat → Nat → Int) (v' : List mv_V) (hi' : Int) (x : Option am_V), k + r = (B m).1.length → mR μ0 μ G c e t f → RV G s v' → G 10 s = hi' → ga ((B m).1.drop k) (v', hi') = ga (B m).1 (v, hi) → (∀ j, j ≠ 7 → j ≠ 8 → j ≠ 9 → j ≠ 10 → G j = g j) → sF g G s → am_Ex mv_P d (am_at kM_gather) (12, [some (.inr (some 50)), some (.inl (s : Int)), some (.inl (m : Int)), some (.inl ((v'.length : Int) - v.length)), some (.inl (k : Int)), x], [], nn, ss, μ) Q := by
    intro r
    induction r with
    | zero =>
      intro k μ G v' hi' x hk h hv' hh' hg Go hF
      have r1 : G 1 m = ((B m).1.length : Int) := (congrFun (Go 1 (by decide) (by decide) (by decide) (by decide)) m).trans b1
      refine x_iload rfl rfl ?_
      refine x_aload rfl rfl ?_
      refine x_get rfl h.o rfl ?_
      refine x_iload rfl rfl ?_
      refine x_rd (j := m) rfl h.a1 (by omega) (by omega) (r1) ?_
      refine x_icmp_ge rfl (fun hc => ?_) (fun hc => ?_)
      · refine x_iload rfl rfl ?_
        refine x_iret rfl ?_
        rw [List.drop_eq_nil_of_le (by omega)] at hg
        rw [← hg] at hQ
        exact hQ _ G h hv' hh' Go hF
      · exact absurd hc (by omega)
    | succ r ih =>
      intro k μ G v' hi' x hk h hv' hh' hg Go hF
      have r1 : G 1 m = ((B m).1.length : Int) := (congrFun (Go 1 (by decide) (by decide) (by decide) (by decide)) m).trans b1
      have eG2 := Go 2 (by decide) (by decide) (by decide) (by decide)
      have q := b3 k (by omega)
      rw [← eG2] at q
      obtain ⟨q1, q2, q3⟩ := q
      obtain ⟨⟨v0, v1⟩, v2⟩ := id hv'
      have hg0 := hg
      rw [mg_drop (B m).1 (show k < (B m).1.length by omega), ga_c] at hg
      refine x_iload rfl rfl ?_
      refine x_aload rfl rfl ?_
      refine x_get rfl h.o rfl ?_
      refine x_iload rfl rfl ?_
      refine x_rd (j := m) rfl h.a1 (by omega) (by omega) (r1) ?_
      refine x_icmp_ge rfl (fun hc => ?_) (fun hc => ?_)
      · exact absurd hc (by omega)
      · refine x_aload rfl rfl ?_
        refine x_get rfl h.o rfl ?_
        refine x_const rfl ?_
        refine x_iload rfl rfl ?_
        refine x_imul rfl ⟨by omega, by omega⟩ ?_
        refine x_const rfl ?_
        refine x_iload rfl rfl ?_
        refine x_imul rfl ⟨by omega, by omega⟩ ?_
        refine x_iadd rfl ⟨by omega, by omega⟩ ?_
        refine x_rd (j := 36 * m + 3 * k) rfl h.a2 (by omega) (by omega) (q1) ?_
        refine x_istore rfl (Nat.le_of_ble_eq_true rfl) ?_
        refine x_iload rfl rfl ?_
        refine x_aload rfl rfl ?_
        refine x_get rfl h.o rfl ?_
        refine x_iload rfl rfl ?_
        refine x_rd (j := s) rfl h.a10 (by omega) (by omega) (hh') ?_
        refine x_icmp_le rfl (fun hc => ?_) (fun hc => ?_)
        · refine x_iinc rfl rfl ⟨by omega, by omega⟩ ?_
          refine x_goto rfl ?_
          rw [if_neg (fun g => by have := g.2; simp only at this; omega)] at hg
          exact ih (k + 1) μ G v' hi' _ (by omega) h hv' hh' hg Go hF
        · refine x_aload rfl rfl ?_
          refine x_get rfl h.o rfl ?_
          refine x_iload rfl rfl ?_
          refine x_rd (j := s) rfl h.a7 (by omega) (by omega) (v0) ?_
          refine x_const rfl ?_
          refine x_icmp_ne rfl (fun hc => ?_) (fun hc => ?_)
          · rw [if_pos ⟨by simp only; omega, by simp only; omega⟩] at hg
            refine x_aload rfl rfl ?_
            refine x_get rfl h.o rfl ?_
            refine x_const rfl ?_
            refine x_iload rfl rfl ?_
            refine x_imul rfl ⟨by omega, by omega⟩ ?_
            refine x_aload rfl rfl ?_
            refine x_get rfl h.o rfl ?_
            refine x_iload rfl rfl ?_
            refine x_rd (j := s) rfl h.a7 (by omega) (by omega) (v0) ?_
            refine x_iadd rfl ⟨by omega, by omega⟩ ?_
            refine x_iload rfl rfl ?_
            refine x_iastN (j := 24 * s + v'.length) rfl h.a8 (by omega) (by omega) rfl (fun μ e o => ?_)
            replace h := h.st (j := 8) (Nat.le_of_ble_eq_true rfl) e o
            clear e o
            refine x_aload rfl rfl ?_
            refine x_get rfl h.o rfl ?_
            refine x_const rfl ?_
            refine x_iload rfl rfl ?_
            refine x_imul rfl ⟨by omega, by omega⟩ ?_
            refine x_aload rfl rfl ?_
            refine x_get rfl h.o rfl ?_
            refine x_iload rfl rfl ?_
            refine x_rd (j := s) rfl h.a7 (by omega) (by omega) (v0) ?_
            refine x_iadd rfl ⟨by omega, by omega⟩ ?_
            refine x_aload rfl rfl ?_
            refine x_get rfl h.o rfl ?_
            refine x_const rfl ?_
            refine x_iload rfl rfl ?_
            refine x_imul rfl ⟨by omega, by omega⟩ ?_
            refine x_const rfl ?_
            refine x_iload rfl rfl ?_
            refine x_imul rfl ⟨by omega, by omega⟩ ?_
            refine x_iadd rfl ⟨by omega, by omega⟩ ?_
            refine x_const rfl ?_
            refine x_iadd rfl ⟨by omega, by omega⟩ ?_
            refine x_rd (j := 36 * m + 3 * k + 1) rfl h.a2 (by omega) (by omega) (q2) ?_
            refine x_iastN (j := 24 * s + v'.length) rfl h.a9 (by omega) (by omega) rfl (fun μ e o => ?_)
            replace h := h.st (j := 9) (Nat.le_of_ble_eq_true rfl) e o
            clear e o
            refine x_aload rfl rfl ?_
            refine x_get rfl h.o rfl ?_
            refine x_iload rfl rfl ?_
            refine x_dup2 rfl ?_
            refine x_rd (j := s) rfl h.a7 (by omega) (by omega) (v0) ?_
            refine x_const rfl ?_
            refine x_iadd rfl ⟨by omega, by omega⟩ ?_
            refine x_iastN (j := s) rfl h.a7 (by omega) (by omega) rfl (fun μ e o => ?_)
            replace h := h.st (j := 7) (Nat.le_of_ble_eq_true rfl) e o
            clear e o
            refine x_aload rfl rfl ?_
            refine x_get rfl h.o rfl ?_
            refine x_iload rfl rfl ?_
            refine x_iload rfl rfl ?_
            refine x_iastN (j := s) rfl h.a10 (by omega) (by omega) rfl (fun μ e o => ?_)
            replace h := h.st (j := 10) (Nat.le_of_ble_eq_true rfl) e o
            clear e o
            refine x_iinc rfl rfl ⟨by omega, by omega⟩ ?_
            refine x_iinc rfl rfl ⟨by omega, by omega⟩ ?_
            refine x_goto rfl ?_
            have hl2 : (v' ++ [((mg (B m).1 k).1, (mg (B m).1 k).2.1)]).length = v'.length + 1 := by rw [List.length_append]; rfl
            rw [show (v'.length : Int) - v.length + 1 = ((v' ++ [((mg (B m).1 k).1, (mg (B m).1 k).2.1)]).length : Int) - v.length by rw [hl2]; omega]
            refine ih (k + 1) _ _ _ (mg (B m).1 k).1 _ (by omega) h ⟨⟨?_, by rw [hl2]; omega⟩, fun i hi => ?_⟩ ?_ hg (fun j h1 h2 h3 h4 => ?_) ((((hF.st (by omega) (pt_u (Or.inl rfl) (by omega))).st (by omega) (pt_u (Or.inr rfl) (by omega))).st (by omega) (pt_s (by decide))).st (by omega) (pt_s (by decide)))
            · show am_fu (G 7) s _ s = _
              rw [am_fu_s, hl2]
              omega
            · rw [hl2] at hi
              show am_fu (G 8) (24 * s + v'.length) _ _ = _ ∧ am_fu (G 9) (24 * s + v'.length) _ _ = _
              rw [vg_app]
              by_cases hi2 : i < v'.length
              · rw [if_pos hi2, am_fu_n (by omega), am_fu_n (by omega)]
                exact v2 i hi2
              · rw [if_neg hi2, show i = v'.length by omega, am_fu_s, am_fu_s, Nat.sub_self]
                exact ⟨rfl, rfl⟩
            · show am_fu (G 10) s _ s = _
              rw [am_fu_s]
            · rw [am_fu_n h4, am_fu_n h1, am_fu_n h3, am_fu_n h2]
              exact Go j h1 h2 h3 h4
          · refine x_goto rfl ?_
            refine x_iinc rfl rfl ⟨by omega, by omega⟩ ?_
            refine x_goto rfl ?_
            rw [if_neg (fun g => by have := g.1; simp only at this; omega)] at hg
            exact ih (k + 1) μ G v' hi' _ (by omega) h hv' hh' hg Go hF
  refine am_wp pM_gather (Nat.le_of_ble_eq_true rfl) ?_
  refine x_aload rfl rfl ?_
  refine x_get rfl h.o rfl ?_
  refine x_iload rfl rfl ?_
  refine x_rd (j := s) rfl h.a5 (by omega) (by omega) (hm) ?_
  refine x_istore rfl (Nat.le_of_ble_eq_true rfl) ?_
  refine x_const rfl ?_
  refine x_istore rfl (Nat.le_of_ble_eq_true rfl) ?_
  refine x_const rfl ?_
  refine x_istore rfl (Nat.le_of_ble_eq_true rfl) ?_
  rw [show (0 : Int) = (v.length : Int) - v.length by omega]
  have := loop (B m).1.length 0 μ g v hi none (by omega) h hv hh rfl (fun _ _ _ _ _ => rfl) sF.rf
  rw [show ((0 : Nat) : Int) = (v.length : Int) - v.length by omega] at this
  exact this
/-- the last part of update: flags are learned -/
theorem c_updC {s m : Nat} {v nt : List mv_V} {x2 x3 x4 x5 : Option am_V} (h : mR μ0 μ g c e t f) (hb : RB g B) (hs : s < 4) (hm : g 5 s = m) (hm3 : m < 3) (h12 : (B m).1.length ≤ 12) (hv : RV g s v) (hn : RN g s nt) (hl : nt.length + v.length ≤ 49) (hQ : ∀ μ' g', mR μ0 μ' g' c e t f → RV g' s (lv (B m).1 v) → RN g' s (nt ++ ln (B m).1 v 0) → (∀ j, j ≠ 9 → j ≠ 11 → j ≠ 12 → g' j = g j) → sF g g' s → Q none (nn, ss, μ')) : am_Ex mv_P (d + 3) (am_at kM_update) (74, [some (.inr (some 50)), some (.inl (s : Int)), x2, x3, x4, x5], [], nn, ss, μ) Q := by
  have loop : ∀ (w kp nt' : List mv_V) (μ : Nat → Option am_C) (G : Nat → Nat → Int) (x : Option am_V), mR μ0 μ G c e t f → RV G s (kp ++ w) → RN G s nt' → nt'.length + w.length ≤ 49 → kp ++ lv (B m).1 w = lv (B m).1 v → nt' ++ ln (B m).1 w kp.length = nt ++ ln (B m).1 v 0 → (∀ j, j ≠ 9 → j ≠ 11 → j ≠ 12 → G j = g j) → sF g G s → am_Ex mv_P (d + 3) (am_at kM_update) (77, [some (.inr (some 50)), some (.inl (s : Int)), x2, x3, some (.inl ((kp.length : Int) + 1)), x], [], nn, ss, μ) Q := by
    intro w
    induction w with
    | nil =>
      intro kp nt' μ G x h hv' hn' hl' e1 e2 Go hF
      have v0 : G 7 s = (kp.length : Int) := by
        have := hv'.1.1
        rw [List.append_nil] at this
        exact this
      refine x_iload rfl rfl ?_
      refine x_aload rfl rfl ?_
      refine x_get rfl h.o rfl ?_
      refine x_iload rfl rfl ?_
      refine x_rd (j := s) rfl h.a7 (by omega) (by omega) (v0) ?_
      refine x_icmp_gt rfl (fun hc => ?_) (fun hc => ?_)
      · refine x_vret rfl ?_
        rw [← e1, ← e2] at hQ
        refine hQ _ G h hv' ?_ Go hF
        rw [show ln (B m).1 [] kp.length = [] from rfl, List.append_nil]
        exact hn'
      · exact absurd hc (by omega)
    | cons y w ih =>
      intro kp nt' μ G x h hv' hn' hl' e1 e2 Go hF
      have hlen : (kp ++ y :: w).length = kp.length + w.length + 1 := by rw [List.length_append, List.length_cons]; omega
      have v0 : G 7 s = (kp.length : Int) + w.length + 1 := by
        have := hv'.1.1
        rw [hlen] at this
        omega
      have v1 := hv'.1.2
      rw [hlen] at v1
      simp only [List.length_cons] at hl'
      have hb' : RB G B := hb.cg (Go 1 (by decide) (by decide) (by decide)) (Go 2 (by decide) (by decide) (by decide)) (Go 3 (by decide) (by decide) (by decide))
      have hm' : G 5 s = m := (congrFun (Go 5 (by decide) (by decide) (by decide)) s).trans hm
      have ekp : kp ++ y :: w = (kp ++ [y]) ++ w := by rw [List.append_assoc]; rfl
      have ekl : (kp ++ [y]).length = kp.length + 1 := by rw [List.length_append]; rfl
      have e1 : kp ++ ((if fp (B m).1 y.1 < (B m).1.length then (y.1, (mg (B m).1 (fp (B m).1 y.1)).2.1) else y) :: lv (B m).1 w) = lv (B m).1 v := e1
      have e2 : nt' ++ (if fp (B m).1 y.1 < (B m).1.length ∧ ¬ (mg (B m).1 (fp (B m).1 y.1)).2.1 = y.2 then (3, (kp.length : Int) + 1) :: ln (B m).1 w (kp.length + 1) else ln (B m).1 w (kp.length + 1)) = nt ++ ln (B m).1 v 0 := e2
      refine x_iload rfl rfl ?_
      refine x_aload rfl rfl ?_
      refine x_get rfl h.o rfl ?_
      refine x_iload rfl rfl ?_
      refine x_rd (j := s) rfl h.a7 (by omega) (by omega) (v0) ?_
      refine x_icmp_gt rfl (fun hc => ?_) (fun hc => ?_)
      · exact absurd hc (by omega)
      · refine x_aload rfl rfl ?_
        refine x_iload rfl rfl ?_
        refine x_iload rfl rfl ?_
        refine x_callV2 rfl h.o (Nat.le_of_ble_eq_true rfl) ?_
        refine c_M_gone h hb' hs hm' hm3 h12 hv' (k := kp.length) (by rw [hlen]; omega) rfl (fun hu => ?_) (fun hu => ?_)
        · rw [vg_mid] at hu
          rw [if_neg hu] at e1
          rw [if_neg (fun q => hu q.1)] at e2
          refine x_if_eq rfl (fun hc => ?_) (fun hc => ?_)
          · exact absurd hc (by decide)
          · refine x_goto rfl ?_
            refine x_iinc rfl rfl ⟨by omega, by omega⟩ ?_
            refine x_goto rfl ?_
            rw [ekp] at hv'
            have := ih (kp ++ [y]) nt' μ G x h hv' hn' (by omega) (by rw [List.append_assoc]; exact e1) (by rw [ekl]; exact e2) Go hF
            rw [ekl] at this
            exact this
        · rw [vg_mid] at hu
          rw [if_pos hu] at e1
          refine x_if_eq rfl (fun hc => ?_) (fun hc => ?_)
          · refine x_aload rfl rfl ?_
            refine x_aload rfl rfl ?_
            refine x_get rfl h.o rfl ?_
            refine x_iload rfl rfl ?_
            refine x_rd (j := s) rfl h.a5 (by omega) (by omega) (hm') ?_
            refine x_aload rfl rfl ?_
            refine x_iload rfl rfl ?_
            refine x_iload rfl rfl ?_
            refine x_callV2 rfl h.o (Nat.le_of_ble_eq_true rfl) ?_
            refine c_M_uidOf h hs hv' (k := kp.length) (by rw [hlen]; omega) rfl ?_
            rw [vg_mid]
            refine x_callV2 rfl h.o (Nat.le_of_ble_eq_true rfl) ?_
            refine c_M_flagsOf h hb' hm3 h12 hu ?_
            have rk : G 9 (24 * s + kp.length) = y.2 := by
              have := (hv'.2 kp.length (by rw [hlen]; omega)).2
              rw [vg_mid] at this
              exact this
            refine x_istore rfl (Nat.le_of_ble_eq_true rfl) ?_
            refine x_iload rfl rfl ?_
            refine x_aload rfl rfl ?_
            refine x_get rfl h.o rfl ?_
            refine x_const rfl ?_
            refine x_iload rfl rfl ?_
            refine x_imul rfl ⟨by omega, by omega⟩ ?_
            refine x_iload rfl rfl ?_
            refine x_iadd rfl ⟨by omega, by omega⟩ ?_
            refine x_const rfl ?_
            refine x_isub rfl ⟨by omega, by omega⟩ ?_
            refine x_rd (j := 24 * s + kp.length) rfl h.a9 (by omega) (by omega) (rk) ?_
            refine x_icmp_ne rfl (fun hc => ?_) (fun hc => ?_)
            · rw [if_pos ⟨hu, hc⟩] at e2
              refine x_aload rfl rfl ?_
              refine x_get rfl h.o rfl ?_
              refine x_const rfl ?_
              refine x_iload rfl rfl ?_
              refine x_imul rfl ⟨by omega, by omega⟩ ?_
              refine x_iload rfl rfl ?_
              refine x_iadd rfl ⟨by omega, by omega⟩ ?_
              refine x_const rfl ?_
              refine x_isub rfl ⟨by omega, by omega⟩ ?_
              refine x_iload rfl rfl ?_
              refine x_iastN (j := 24 * s + kp.length) rfl h.a9 (by omega) (by omega) rfl (fun μ e o => ?_)
              replace h := h.st (j := 9) (Nat.le_of_ble_eq_true rfl) e o
              clear e o
              have hv2 := RV.set (g' := am_fu G 9 (am_fu (G 9) (24 * s + kp.length) (mg (B m).1 (fp (B m).1 y.1)).2.1)) hv' (k := kp.length) (z := (mg (B m).1 (fp (B m).1 y.1)).2.1) (by rw [hlen]; omega) rfl rfl rfl
              rw [vg_mid, set_mid] at hv2
              have hn2 : RN (am_fu G 9 (am_fu (G 9) (24 * s + kp.length) (mg (B m).1 (fp (B m).1 y.1)).2.1)) s nt' := hn'.cg rfl rfl
              refine x_aload rfl rfl ?_
              refine x_iload rfl rfl ?_
              refine x_const rfl ?_
              refine x_iload rfl rfl ?_
              refine x_callV3 rfl h.o (Nat.le_of_ble_eq_true rfl) ?_
              refine c_M_tell h hs hn2 (by omega) (fun μ3 g3 h hn3 Go3 hF3 => ?_)
              have hv3 : RV g3 s (kp ++ (y.1, (mg (B m).1 (fp (B m).1 y.1)).2.1) :: w) := hv2.cg (Go3 7 (by decide) (by decide)) (Go3 8 (by decide) (by decide)) (Go3 9 (by decide) (by decide))
              refine x_iinc rfl rfl ⟨by omega, by omega⟩ ?_
              refine x_goto rfl ?_
              have ekp2 : kp ++ (y.1, (mg (B m).1 (fp (B m).1 y.1)).2.1) :: w = (kp ++ [(y.1, (mg (B m).1 (fp (B m).1 y.1)).2.1)]) ++ w := by rw [List.append_assoc]; rfl
              have ekl2 : (kp ++ [(y.1, (mg (B m).1 (fp (B m).1 y.1)).2.1)]).length = kp.length + 1 := by rw [List.length_append]; rfl
              rw [ekp2] at hv3
              have := ih (kp ++ [(y.1, (mg (B m).1 (fp (B m).1 y.1)).2.1)]) (nt' ++ [(3, (kp.length : Int) + 1)]) μ3 g3 (some (.inl (mg (B m).1 (fp (B m).1 y.1)).2.1)) h hv3 hn3 (by rw [List.length_append]; simp only [List.length_cons, List.length_nil]; omega) (by rw [List.append_assoc]; exact e1) (by rw [ekl2, List.append_assoc]; exact e2) (fun j h1 h2 h3 => by rw [Go3 j h2 h3, am_fu_n h1]; exact Go j h1 h2 h3) ((hF.st (by omega) (pt_u (Or.inr rfl) (by omega))).tr hF3)
              rw [ekl2] at this
              exact this
            · have hc' := Classical.not_not.mp hc
              rw [if_neg (fun q => q.2 hc')] at e2
              have ey : (y.1, (mg (B m).1 (fp (B m).1 y.1)).2.1) = y := by rw [hc']
              rw [ey] at e1
              refine x_goto rfl ?_
              refine x_iinc rfl rfl ⟨by omega, by omega⟩ ?_
              refine x_goto rfl ?_
              rw [ekp] at hv'
              have := ih (kp ++ [y]) nt' μ G (some (.inl (mg (B m).1 (fp (B m).1 y.1)).2.1)) h hv' hn' (by omega) (by rw [List.append_assoc]; exact e1) (by rw [ekl]; exact e2) Go hF
              rw [ekl] at this
              exact this
          · exact absurd rfl hc
  refine x_const rfl ?_
  refine x_istore rfl (Nat.le_of_ble_eq_true rfl) ?_
  exact loop v [] nt μ g x5 h hv hn hl rfl rfl (fun _ _ _ _ => rfl) sF.rf
/-- the middle part -/
theorem c_updB {s m : Nat} {v nt : List mv_V} {hi : Int} {x2 x3 x4 x5 : Option am_V} (h : mR μ0 μ g c e t f) (hb : RB g B) (hs : s < 4) (hm : g 5 s = m) (hm3 : m < 3) (h12 : (B m).1.length ≤ 12) (hv : RV g s v) (hh : g 10 s = hi) (hn : RN g s nt) (hl : nt.length ≤ 24) (hQ : ∀ μ' g', mR μ0 μ' g' c e t f → RV g' s (lv (B m).1 (ga (B m).1 (v, hi)).1) → g' 10 s = (ga (B m).1 (v, hi)).2 → RN g' s (nt ++ ((if v.length < (ga (B m).1 (v, hi)).1.length then [(2, ((ga (B m).1 (v, hi)).1.length : Int))] else []) ++ ln (B m).1 (ga (B m).1 (v, hi)).1 0)) → (∀ j, j < 7 → g' j = g j) → sF g g' s → Q none (nn, ss, μ')) : am_Ex mv_P (d + 3) (am_at kM_update) (54, [some (.inr (some 50)), some (.inl (s : Int)), x2, x3, x4, x5], [], nn, ss, μ) Q := by
  have gl := ga_len (B m).1 (v, hi) hv.1.2
  refine x_aload rfl rfl ?_
  refine x_iload rfl rfl ?_
  refine x_callV1 rfl h.o (Nat.le_of_ble_eq_true rfl) ?_
  refine c_M_gather h hb hs hm hm3 h12 hv hh (fun μ1 g1 h hv1 hh1 Go1 hF1 => ?_)
  have hn1 : RN g1 s nt := hn.cg (Go1 11 (by decide) (by decide) (by decide) (by decide)) (Go1 12 (by decide) (by decide) (by decide) (by decide))
  have hb1 : RB g1 B := hb.cg (Go1 1 (by decide) (by decide) (by decide) (by decide)) (Go1 2 (by decide) (by decide) (by decide) (by decide)) (Go1 3 (by decide) (by decide) (by decide) (by decide))
  have hm1 : g1 5 s = m := (congrFun (Go1 5 (by decide) (by decide) (by decide) (by decide)) s).trans hm
  have gl1 : v.length ≤ (ga (B m).1 (v, hi)).1.length := gl.1
  have gl2 : (ga (B m).1 (v, hi)).1.length ≤ 24 := gl.2
  refine x_if_le rfl (fun hc => ?_) (fun hc => ?_)
  · rw [if_neg (by omega)] at hQ
    refine c_updC h hb1 hs hm1 hm3 h12 hv1 hn1 (by omega) (fun μ2 g2 h hv2 hn2 Go2 hF2 => ?_)
    exact hQ _ g2 h hv2 (by rw [Go2 10 (by decide) (by decide) (by decide)]; exact hh1) hn2 (fun j hj => by rw [Go2 j (by omega) (by omega) (by omega), Go1 j (by omega) (by omega) (by omega) (by omega)]) (hF1.tr hF2)
  · rw [if_pos (by omega)] at hQ
    refine x_aload rfl rfl ?_
    refine x_iload rfl rfl ?_
    refine x_const rfl ?_
    refine x_aload rfl rfl ?_
    refine x_get rfl h.o rfl ?_
    refine x_iload rfl rfl ?_
    refine x_rd (j := s) rfl h.a7 (by omega) (by omega) (hv1.1.1) ?_
    refine x_callV3 rfl h.o (Nat.le_of_ble_eq_true rfl) ?_
    refine c_M_tell h hs hn1 (by omega) (fun μ2 g2 h hn2 Go2 hF2 => ?_)
    have hv2 : RV g2 s (ga (B m).1 (v, hi)).1 := hv1.cg (Go2 7 (by decide) (by decide)) (Go2 8 (by decide) (by decide)) (Go2 9 (by decide) (by decide))
    have hb2 : RB g2 B := hb1.cg (Go2 1 (by decide) (by decide)) (Go2 2 (by decide) (by decide)) (Go2 3 (by decide) (by decide))
    have hm2 : g2 5 s = m := (congrFun (Go2 5 (by decide) (by decide)) s).trans hm1
    refine c_updC h hb2 hs hm2 hm3 h12 hv2 hn2 (by rw [List.length_append]; simp only [List.length_cons, List.length_nil]; omega) (fun μ3 g3 h hv3 hn3 Go3 hF3 => ?_)
    refine hQ _ g3 h hv3 (by rw [Go3 10 (by decide) (by decide) (by decide), Go2 10 (by decide) (by decide)]; exact hh1) ?_ (fun j hj => by rw [Go3 j (by omega) (by omega) (by omega), Go2 j (by omega) (by omega), Go1 j (by omega) (by omega) (by omega) (by omega)]) ((hF1.tr hF2).tr hF3)
    rw [List.append_assoc] at hn3
    exact hn3
theorem c_M_update {s m : Nat} {v : List mv_V} {hi rm : Int} (h : mR μ0 μ g c e t f) (hb : RB g B) (hs : s < 4) (hm : g 5 s = m) (hm3 : m < 3) (h12 : (B m).1.length ≤ 12) (hv : RV g s v) (hh : g 10 s = hi) (hQ : ∀ μ' g', mR μ0 μ' g' c e t f → RV g' s (upV (B m).1 v hi rm) → g' 10 s = upH (B m).1 v hi rm → RN g' s (upN (B m).1 v hi rm) → (∀ j, j < 7 → g' j = g j) → sF g g' s → Q none (nn, ss, μ')) : am_Wp mv_P (d + 4) jM_update [.inr (some 50), .inl s, .inl rm] (nn, ss, μ) Q := by
  have v1 := hv.1.2
  have loop : ∀ (w kp nt' : List mv_V) (μ : Nat → Option am_C) (G : Nat → Nat → Int), ¬ rm = 0 → mR μ0 μ G c e t f → RV G s (kp ++ w) → RN G s nt' → nt'.length + w.length ≤ 24 → kp ++ dk (B m).1 w = dk (B m).1 v → nt' ++ dn (B m).1 w kp.length = dn (B m).1 v 0 → (∀ j, j < 7 ∨ j = 10 → G j = g j) → sF g G s → am_Ex mv_P (d + 3) (am_at kM_update) (9, [some (.inr (some 50)), some (.inl (s : Int)), some (.inl rm), some (.inl ((kp.length : Int) + 1)), none, none], [], nn, ss, μ) Q := by
    intro w
    induction w with
    | nil =>
      intro kp nt' μ G hr h hv' hn' hl' e1 e2 Go hF
      have hb' : RB G B := hb.cg (Go 1 (by omega)) (Go 2 (by omega)) (Go 3 (by omega))
      have hm' : G 5 s = m := (congrFun (Go 5 (by omega)) s).trans hm
      rw [show dk (B m).1 [] = [] from rfl, List.append_nil] at e1
      rw [show dn (B m).1 [] kp.length = [] from rfl, List.append_nil] at e2
      rw [List.append_nil] at hv'
      have v0 : G 7 s = (kp.length : Int) := hv'.1.1
      refine x_iload rfl rfl ?_
      refine x_if_eq rfl (fun hc => ?_) (fun hc => ?_)
      · exact absurd hc hr
      · refine x_iload rfl rfl ?_
        refine x_aload rfl rfl ?_
        refine x_get rfl h.o rfl ?_
        refine x_iload rfl rfl ?_
        refine x_rd (j := s) rfl h.a7 (by omega) (by omega) (v0) ?_
        refine x_icmp_gt rfl (fun hc => ?_) (fun hc => ?_)
        · rw [e1] at hv'
          rw [e2] at hn'
          have hl2 := dk_len (B m).1 v 0
          refine c_updB h hb' hs hm' hm3 h12 hv' ((congrFun (Go 10 (by omega)) s).trans hh) hn' (by omega) (fun μ2 g2 h hv2 hh2 hn2 Go2 hF2 => ?_)
          unfold upV upH upN at hQ
          simp only [if_neg hr] at hQ
          exact hQ _ g2 h hv2 hh2 hn2 (fun j hj => by rw [Go2 j hj, Go j (by omega)]) (hF.tr hF2)
        · exact absurd hc (by omega)
    | cons y w ih =>
      intro kp nt' μ G hr h hv' hn' hl' e1 e2 Go hF
      have hb' : RB G B := hb.cg (Go 1 (by omega)) (Go 2 (by omega)) (Go 3 (by omega))
      have hm' : G 5 s = m := (congrFun (Go 5 (by omega)) s).trans hm
      have hlen : (kp ++ y :: w).length = kp.length + w.length + 1 := by rw [List.length_append, List.length_cons]; omega
      have v0 : G 7 s = (kp.length : Int) + w.length + 1 := by
        have := hv'.1.1
        rw [hlen] at this
        omega
      have v1 := hv'.1.2
      rw [hlen] at v1
      simp only [List.length_cons] at hl'
      have e1 : kp ++ (if fp (B m).1 y.1 < (B m).1.length then y :: dk (B m).1 w else dk (B m).1 w) = dk (B m).1 v := e1
      have e2 : nt' ++ (if fp (B m).1 y.1 < (B m).1.length then dn (B m).1 w (kp.length + 1) else (1, (kp.length : Int) + 1) :: dn (B m).1 w kp.length) = dn (B m).1 v 0 := e2
      refine x_iload rfl rfl ?_
      refine x_if_eq rfl (fun hc => ?_) (fun hc => ?_)
      · exact absurd hc hr
      · refine x_iload rfl rfl ?_
        refine x_aload rfl rfl ?_
        refine x_get rfl h.o rfl ?_
        refine x_iload rfl rfl ?_
        refine x_rd (j := s) rfl h.a7 (by omega) (by omega) (v0) ?_
        refine x_icmp_gt rfl (fun hc => ?_) (fun hc => ?_)
        · exact absurd hc (by omega)
        · refine x_aload rfl rfl ?_
          refine x_iload rfl rfl ?_
          refine x_iload rfl rfl ?_
          refine x_callV2 rfl h.o (Nat.le_of_ble_eq_true rfl) ?_
          refine c_M_gone h hb' hs hm' hm3 h12 hv' (k := kp.length) (by rw [hlen]; omega) rfl (fun hu => ?_) (fun hu => ?_)
          · rw [vg_mid] at hu
            rw [if_neg hu] at e1 e2
            refine x_if_eq rfl (fun hc => ?_) (fun hc => ?_)
            · exact absurd hc (by decide)
            · refine x_aload rfl rfl ?_
              refine x_iload rfl rfl ?_
              refine x_iload rfl rfl ?_
              refine x_callV2 rfl h.o (Nat.le_of_ble_eq_true rfl) ?_
              refine c_M_leave h hs hv' rfl (fun μ2 g2 h hv2 Go2 hF2 => ?_)
              have hn2 : RN g2 s nt' := hn'.cg (Go2 11 (by decide) (by decide) (by decide)) (Go2 12 (by decide) (by decide) (by decide))
              refine x_aload rfl rfl ?_
              refine x_iload rfl rfl ?_
              refine x_const rfl ?_
              refine x_iload rfl rfl ?_
              refine x_callV3 rfl h.o (Nat.le_of_ble_eq_true rfl) ?_
              refine c_M_tell h hs hn2 (by omega) (fun μ3 g3 h hn3 Go3 hF3 => ?_)
              refine x_goto rfl ?_
              exact ih kp (nt' ++ [(1, (kp.length : Int) + 1)]) μ3 g3 hr h (hv2.cg (Go3 7 (by decide) (by decide)) (Go3 8 (by decide) (by decide)) (Go3 9 (by decide) (by decide))) hn3 (by rw [List.length_append]; simp only [List.length_cons, List.length_nil]; omega) e1 (by rw [List.append_assoc]; exact e2) (fun j hj => by rw [Go3 j (by omega) (by omega), Go2 j (by omega) (by omega) (by omega), Go j hj]) ((hF.tr hF2).tr hF3)
          · rw [vg_mid] at hu
            rw [if_pos hu] at e1 e2
            refine x_if_eq rfl (fun hc => ?_) (fun hc => ?_)
            · refine x_iinc rfl rfl ⟨by omega, by omega⟩ ?_
              refine x_goto rfl ?_
              have ekp : kp ++ y :: w = (kp ++ [y]) ++ w := by rw [List.append_assoc]; rfl
              have ekl : (kp ++ [y]).length = kp.length + 1 := by rw [List.length_append]; rfl
              rw [ekp] at hv'
              have := ih (kp ++ [y]) nt' μ G hr h hv' hn' (by omega) (by rw [List.append_assoc]; exact e1) (by rw [ekl]; exact e2) Go hF
              rw [ekl] at this
              exact this
            · exact absurd rfl hc
  refine am_wp pM_update (Nat.le_of_ble_eq_true rfl) ?_
  refine x_aload rfl rfl ?_
  refine x_get rfl h.o rfl ?_
  refine x_iload rfl rfl ?_
  refine x_const rfl ?_
  refine x_iastN (j := s) rfl h.a11 (by omega) (by omega) rfl (fun μ e o => ?_)
  replace h := h.st (j := 11) (Nat.le_of_ble_eq_true rfl) e o
  clear e o
  have hn0 : RN (am_fu g 11 (am_fu (g 11) s 0)) s [] := by
    refine ⟨⟨?_, Nat.zero_le _⟩, fun k hk => absurd hk (Nat.not_lt_zero _)⟩
    show am_fu (g 11) s 0 s = _
    rw [am_fu_s]
    rfl
  have hF0 : sF g (am_fu g 11 (am_fu (g 11) s 0)) s := sF.rf.st (by omega) (pt_s (by decide))
  refine x_const rfl ?_
  refine x_istore rfl (Nat.le_of_ble_eq_true rfl) ?_
  by_cases hr : rm = 0
  · refine x_iload rfl rfl ?_
    refine x_if_eq rfl (fun hc => ?_) (fun hc => ?_)
    · refine c_updB (nt := []) h (hb.cg rfl rfl rfl) hs hm hm3 h12 (hv.cg rfl rfl rfl) hh hn0 (Nat.zero_le _) (fun μ2 g2 h hv2 hh2 hn2 Go2 hF2 => ?_)
      unfold upV upH upN at hQ
      simp only [if_pos hr] at hQ
      exact hQ _ g2 h hv2 hh2 hn2 (fun j hj => by rw [Go2 j hj, am_fu_n (by omega)]) (hF0.tr hF2)
    · exact absurd hr hc
  · exact loop v [] [] _ _ hr h (hv.cg rfl rfl rfl) hn0 (by simp only [List.length_nil]; omega) rfl rfl (fun j hj => by rw [am_fu_n (by omega)]) hF0
end R6
