/-! the reference: a change is done, noted; adding, purging -/
def sf (A : Nat → Int) (lo x w : Nat) : Nat → Int := fun j => if lo ≤ j ∧ j < x then A (j + w) else A j
theorem sf_0 (A : Nat → Int) (lo w : Nat) : sf A lo lo w = A := by
  funext j
  unfold sf
  rw [if_neg (by omega)]
theorem sf_v (A : Nat → Int) {lo x w : Nat} (h : lo ≤ x) : sf A lo x w (x + w) = A (x + w) := by
  unfold sf
  rw [if_neg (by omega)]
theorem sf_s (A : Nat → Int) {lo x w : Nat} (h : lo ≤ x) : am_fu (sf A lo x w) x (A (x + w)) = sf A lo (x + 1) w := by
  funext j
  unfold am_fu sf
  by_cases hj : j = x
  · rw [if_pos hj, if_pos (by omega), hj]
  · rw [if_neg hj]
    by_cases h2 : lo ≤ j ∧ j < x
    · rw [if_pos h2, if_pos (by omega)]
    · rw [if_neg h2, if_neg (by omega)]
theorem RB.up {g g' : Nat → Nat → Int} {B : Nat → mv_B} {m : Nat} {b : mv_B} (h : RB g B) (hm : m < 3) (hl : ∀ x, x < 3 → (B x).1.length ≤ 12) (h1 : g' 1 m = b.1.length) (h1' : ∀ x, x ≠ m → g' 1 x = g 1 x) (h3 : g' 3 m = b.2) (h3' : ∀ x, x ≠ m → g' 3 x = g 3 x) (hk : ∀ k, k < b.1.length → g' 2 (36 * m + 3 * k) = (mg b.1 k).1 ∧ g' 2 (36 * m + 3 * k + 1) = (mg b.1 k).2.1 ∧ g' 2 (36 * m + 3 * k + 2) = (mg b.1 k).2.2) (ho : ∀ j, (j < 36 * m ∨ 36 * m + 36 ≤ j) → g' 2 j = g 2 j) : RB g' (am_fu B m b) := by
  intro x hx
  by_cases hxm : x = m
  · rw [hxm, am_fu_s]
    exact ⟨h1, h3, hk⟩
  · rw [am_fu_n hxm, h1' x hxm, h3' x hxm]
    obtain ⟨q1, q2, q3⟩ := h x hx
    refine ⟨q1, q2, fun k hk => ?_⟩
    have := hl x hx
    rw [ho _ (by omega), ho _ (by omega), ho _ (by omega)]
    exact q3 k hk
section R3
variable {d nn ss : Nat} {μ0 μ : Nat → Option am_C} {Q : Option am_V → am_M → Prop} {g : Nat → Nat → Int} {c e t f : Int} {B : Nat → mv_B} {lg : List mv_H} {du : Nat}
set_option maxRecDepth 20000 in
theorem c_M_apply {i m : Nat} {kd u fl z : Int} (h : mR μ0 μ g c e t f) (hb : RB g B) (hi : i < 1600) (c0 : g 0 (5 * i) = kd) (c1 : g 0 (5 * i + 1) = m) (c2 : g 0 (5 * i + 2) = u) (c3 : g 0 (5 * i + 3) = fl) (c4 : g 0 (5 * i + 4) = z) (hm : m < 3) (hl : ∀ x, x < 3 → (B x).1.length ≤ 12) (hx : -1 < u ∧ u < 100000) (hv : vc (kd, m, u, fl, z) (B m)) (hQ : ∀ μ' g', mR μ0 μ' g' c e t f → RB g' (apS B (kd, m, u, fl, z)) → (∀ j, j < 1 ∨ 3 < j → g' j = g j) → Q none (nn, ss, μ')) : am_Wp mv_P (d + 2) jM_apply [.inr (some 50), .inl i] (nn, ss, μ) Q := by
  obtain ⟨b1, b2, b3⟩ := hb m hm
  have hlm := hl m hm
  have eA : apS B (kd, m, u, fl, z) = am_fu B m (ap (kd, m, u, fl, z) (B m)) := rfl
  refine am_wp pM_apply (Nat.le_of_ble_eq_true rfl) ?_
  refine x_const rfl ?_
  refine x_iload rfl rfl ?_
  refine x_imul rfl ⟨by omega, by omega⟩ ?_
  refine x_istore rfl (Nat.le_of_ble_eq_true rfl) ?_
  refine x_aload rfl rfl ?_
  refine x_get rfl h.o rfl ?_
  refine x_iload rfl rfl ?_
  refine x_const rfl ?_
  refine x_iadd rfl ⟨by omega, by omega⟩ ?_
  refine x_rd (j := 5 * i + 1) rfl h.a0 (by omega) (by omega) (c1) ?_
  refine x_istore rfl (Nat.le_of_ble_eq_true rfl) ?_
  refine x_aload rfl rfl ?_
  refine x_get rfl h.o rfl ?_
  refine x_iload rfl rfl ?_
  refine x_const rfl ?_
  refine x_iadd rfl ⟨by omega, by omega⟩ ?_
  refine x_rd (j := 5 * i + 2) rfl h.a0 (by omega) (by omega) (c2) ?_
  refine x_istore rfl (Nat.le_of_ble_eq_true rfl) ?_
  refine x_aload rfl rfl ?_
  refine x_get rfl h.o rfl ?_
  refine x_iload rfl rfl ?_
  refine x_rd (j := 5 * i) rfl h.a0 (by omega) (by omega) (c0) ?_
  refine x_const rfl ?_
  refine x_icmp_ne rfl (fun hc => ?_) (fun hc => ?_)
  · -- not 3
    refine x_aload rfl rfl ?_
    refine x_get rfl h.o rfl ?_
    refine x_iload rfl rfl ?_
    refine x_rd (j := 5 * i) rfl h.a0 (by omega) (by omega) (c0) ?_
    refine x_const rfl ?_
    refine x_icmp_ne rfl (fun hc => ?_) (fun hc => ?_)
    · rename_i hc3
      rcases hv with ⟨k1, k2, k3⟩ | ⟨k1, k2⟩
      · simp only at k1 k2 k3
        subst k1
        refine x_aload rfl rfl ?_
        refine x_get rfl h.o rfl ?_
        refine x_iload rfl rfl ?_
        refine x_rd (j := 5 * i) rfl h.a0 (by omega) (by omega) (c0) ?_
        refine x_const rfl ?_
        refine x_icmp_ne rfl (fun hc => ?_) (fun hc => ?_)
        · exact absurd rfl hc
        · refine x_const rfl ?_
          refine x_iload rfl rfl ?_
          refine x_imul rfl ⟨by omega, by omega⟩ ?_
          refine x_const rfl ?_
          refine x_aload rfl rfl ?_
          refine x_get rfl h.o rfl ?_
          refine x_iload rfl rfl ?_
          refine x_rd (j := m) rfl h.a1 (by omega) (by omega) (b1) ?_
          refine x_imul rfl ⟨by omega, by omega⟩ ?_
          refine x_iadd rfl ⟨by omega, by omega⟩ ?_
          refine x_istore rfl (Nat.le_of_ble_eq_true rfl) ?_
          refine x_aload rfl rfl ?_
          refine x_get rfl h.o rfl ?_
          refine x_iload rfl rfl ?_
          refine x_iload rfl rfl ?_
          refine x_iastN (j := 36 * m + 3 * (B m).1.length) rfl h.a2 (by omega) (by omega) rfl (fun μ e o => ?_)
          replace h := h.st (j := 2) (Nat.le_of_ble_eq_true rfl) e o
          clear e o
          refine x_aload rfl rfl ?_
          refine x_get rfl h.o rfl ?_
          refine x_iload rfl rfl ?_
          refine x_const rfl ?_
          refine x_iadd rfl ⟨by omega, by omega⟩ ?_
          refine x_aload rfl rfl ?_
          refine x_get rfl h.o rfl ?_
          refine x_iload rfl rfl ?_
          refine x_const rfl ?_
          refine x_iadd rfl ⟨by omega, by omega⟩ ?_
          refine x_rd (j := 5 * i + 3) rfl h.a0 (by omega) (by omega) (c3) ?_
          refine x_iastN (j := 36 * m + 3 * (B m).1.length + 1) rfl h.a2 (by omega) (by omega) rfl (fun μ e o => ?_)
          replace h := h.st (j := 2) (Nat.le_of_ble_eq_true rfl) e o
          clear e o
          refine x_aload rfl rfl ?_
          refine x_get rfl h.o rfl ?_
          refine x_iload rfl rfl ?_
          refine x_const rfl ?_
          refine x_iadd rfl ⟨by omega, by omega⟩ ?_
          refine x_aload rfl rfl ?_
          refine x_get rfl h.o rfl ?_
          refine x_iload rfl rfl ?_
          refine x_const rfl ?_
          refine x_iadd rfl ⟨by omega, by omega⟩ ?_
          refine x_rd (j := 5 * i + 4) rfl h.a0 (by omega) (by omega) (c4) ?_
          refine x_iastN (j := 36 * m + 3 * (B m).1.length + 2) rfl h.a2 (by omega) (by omega) rfl (fun μ e o => ?_)
          replace h := h.st (j := 2) (Nat.le_of_ble_eq_true rfl) e o
          clear e o
          refine x_aload rfl rfl ?_
          refine x_get rfl h.o rfl ?_
          refine x_iload rfl rfl ?_
          refine x_dup2 rfl ?_
          refine x_rd (j := m) rfl h.a1 (by omega) (by omega) (b1) ?_
          refine x_const rfl ?_
          refine x_iadd rfl ⟨by omega, by omega⟩ ?_
          refine x_iastN (j := m) rfl h.a1 (by omega) (by omega) rfl (fun μ e o => ?_)
          replace h := h.st (j := 1) (Nat.le_of_ble_eq_true rfl) e o
          clear e o
          refine x_aload rfl rfl ?_
          refine x_get rfl h.o rfl ?_
          refine x_iload rfl rfl ?_
          refine x_iload rfl rfl ?_
          refine x_const rfl ?_
          refine x_iadd rfl ⟨by omega, by omega⟩ ?_
          refine x_iastN (j := m) rfl h.a3 (by omega) (by omega) rfl (fun μ e o => ?_)
          replace h := h.st (j := 3) (Nat.le_of_ble_eq_true rfl) e o
          clear e o
          refine x_vret rfl ?_
          refine hQ _ _ h ?_ (fun j hj => ?_)
          · rw [eA]
            have e1 : ap ((1 : Int), (m : Int), u, fl, z) (B m) = ((B m).1 ++ [(u, fl, z)], u + 1) := rfl
            rw [e1]
            refine RB.up hb hm hl ?_ (fun x hx => ?_) ?_ (fun x hx => ?_) (fun k hk => ?_) (fun j hj => ?_)
            · show am_fu (g 1) m _ m = _
              rw [am_fu_s, List.length_append]
              rfl
            · show am_fu (g 1) m _ x = _
              rw [am_fu_n hx]
            · show am_fu (g 3) m _ m = _
              rw [am_fu_s]
            · show am_fu (g 3) m _ x = _
              rw [am_fu_n hx]
            · simp only [List.length_append, List.length_cons, List.length_nil] at hk
              show am_fu (am_fu (am_fu (g 2) (36 * m + 3 * (B m).1.length) u) (36 * m + 3 * (B m).1.length + 1) fl) (36 * m + 3 * (B m).1.length + 2) z _ = _ ∧ am_fu (am_fu (am_fu (g 2) (36 * m + 3 * (B m).1.length) u) (36 * m + 3 * (B m).1.length + 1) fl) (36 * m + 3 * (B m).1.length + 2) z _ = _ ∧ am_fu (am_fu (am_fu (g 2) (36 * m + 3 * (B m).1.length) u) (36 * m + 3 * (B m).1.length + 1) fl) (36 * m + 3 * (B m).1.length + 2) z _ = _
              rw [mg_app]
              by_cases hk2 : k < (B m).1.length
              · rw [if_pos hk2]
                rw [am_fu_n (by omega), am_fu_n (by omega), am_fu_n (by omega), am_fu_n (by omega), am_fu_n (by omega), am_fu_n (by omega), am_fu_n (by omega), am_fu_n (by omega), am_fu_n (by omega)]
                exact b3 k hk2
              · have ek : k = (B m).1.length := by omega
                rw [if_neg hk2, if_pos ek, ek, am_fu_n (by omega), am_fu_n (by omega), am_fu_s, am_fu_n (by omega), am_fu_s, am_fu_s]
                exact ⟨rfl, rfl, rfl⟩
            · show am_fu (am_fu (am_fu (g 2) (36 * m + 3 * (B m).1.length) u) (36 * m + 3 * (B m).1.length + 1) fl) (36 * m + 3 * (B m).1.length + 2) z j = _
              rw [am_fu_n (by omega), am_fu_n (by omega), am_fu_n (by omega)]
          · rw [am_fu_n (by omega), am_fu_n (by omega), am_fu_n (by omega), am_fu_n (by omega), am_fu_n (by omega)]
      · exfalso
        simp only at k1
        omega
    · -- 2
      have ek : kd = 2 := Classical.not_not.mp hc
      subst ek
      have hu : fp (B m).1 u < (B m).1.length := by
        rcases hv with ⟨k1, k2, k3⟩ | ⟨k1, k2⟩
        · exact absurd k1 (show ¬ (2 : Int) = 1 by decide)
        · exact k2
      have loop : ∀ (r x : Nat) (μ : Nat → Option am_C) (G : Nat → Nat → Int), x + r = 36 * m + 3 * ((B m).1.length - 1) → 36 * m + 3 * fp (B m).1 u ≤ x → mR μ0 μ G c e t f → G 1 = am_fu (g 1) m ((B m).1.length - 1) → G 2 = sf (g 2) (36 * m + 3 * fp (B m).1 u) x 3 → (∀ j, j ≠ 1 → j ≠ 2 → G j = g j) → am_Ex mv_P (d + 1) (am_at kM_apply) (102, [some (.inr (some 50)), some (.inl (i : Int)), some (.inl (5 * (i : Int))), some (.inl (m : Int)), some (.inl u), some (.inl (fp (B m).1 u : Int)), some (.inl (x : Int))], [], nn, ss, μ) Q := by
        intro r
        induction r with
        | zero =>
          intro x μ G hx hlo h G1 G2 Go
          have r1 : G 1 m = ((B m).1.length : Int) - 1 := by rw [G1, am_fu_s]
          refine x_iload rfl rfl ?_
          refine x_const rfl ?_
          refine x_iload rfl rfl ?_
          refine x_imul rfl ⟨by omega, by omega⟩ ?_
          refine x_const rfl ?_
          refine x_aload rfl rfl ?_
          refine x_get rfl h.o rfl ?_
          refine x_iload rfl rfl ?_
          refine x_rd (j := m) rfl h.a1 (by omega) (by omega) (r1) ?_
          refine x_imul rfl ⟨by omega, by omega⟩ ?_
          refine x_iadd rfl ⟨by omega, by omega⟩ ?_
          refine x_icmp_ge rfl (fun hc => ?_) (fun hc => ?_)
          · refine x_aload rfl rfl ?_
            refine x_get rfl h.o rfl ?_
            refine x_iload rfl rfl ?_
            refine x_rd (j := 5 * i) rfl h.a0 (by omega) (by omega) ((congrFun (Go 0 (by decide) (by decide)) _).trans c0) ?_
            refine x_const rfl ?_
            refine x_icmp_ne rfl (fun hc => ?_) (fun hc => ?_)
            · refine x_vret rfl ?_
              refine hQ _ _ h ?_ (fun j hj => Go j (by omega) (by omega))
              rw [eA]
              have e1 : ap ((2 : Int), (m : Int), u, fl, z) (B m) = ((B m).1.eraseIdx (fp (B m).1 u), (B m).2) := rfl
              rw [e1]
              refine RB.up hb hm hl ?_ (fun y hy => ?_) ?_ (fun y hy => ?_) (fun k hk => ?_) (fun j hj => ?_)
              · rw [r1]
                show _ = (((B m).1.eraseIdx (fp (B m).1 u)).length : Int)
                rw [er_len hu]
                omega
              · rw [G1, am_fu_n hy]
              · rw [Go 3 (by decide) (by decide)]
                exact b2
              · rw [Go 3 (by decide) (by decide)]
              · have hk : k < ((B m).1.eraseIdx (fp (B m).1 u)).length := hk
                rw [er_len hu] at hk
                show _ = (mg ((B m).1.eraseIdx (fp (B m).1 u)) k).1 ∧ _ = (mg ((B m).1.eraseIdx (fp (B m).1 u)) k).2.1 ∧ _ = (mg ((B m).1.eraseIdx (fp (B m).1 u)) k).2.2
                rw [mg_er, G2]
                unfold sf
                by_cases hkf : k < fp (B m).1 u
                · rw [if_pos hkf, if_neg (by omega), if_neg (by omega), if_neg (by omega)]
                  exact b3 k (by omega)
                · rw [if_neg hkf, if_pos (by omega), if_pos (by omega), if_pos (by omega)]
                  have := b3 (k + 1) (by omega)
                  rw [show 36 * m + 3 * (k + 1) = 36 * m + 3 * k + 3 by omega] at this
                  exact this
              · rw [G2]
                unfold sf
                rw [if_neg (by omega)]
            · exact absurd (Classical.not_not.mp hc) (by decide)
          · exact absurd hc (by omega)
        | succ r ih =>
          intro x μ G hx hlo h G1 G2 Go
          have r1 : G 1 m = ((B m).1.length : Int) - 1 := by rw [G1, am_fu_s]
          refine x_iload rfl rfl ?_
          refine x_const rfl ?_
          refine x_iload rfl rfl ?_
          refine x_imul rfl ⟨by omega, by omega⟩ ?_
          refine x_const rfl ?_
          refine x_aload rfl rfl ?_
          refine x_get rfl h.o rfl ?_
          refine x_iload rfl rfl ?_
          refine x_rd (j := m) rfl h.a1 (by omega) (by omega) (r1) ?_
          refine x_imul rfl ⟨by omega, by omega⟩ ?_
          refine x_iadd rfl ⟨by omega, by omega⟩ ?_
          refine x_icmp_ge rfl (fun hc => ?_) (fun hc => ?_)
          · exact absurd hc (by omega)
          · refine x_aload rfl rfl ?_
            refine x_get rfl h.o rfl ?_
            refine x_iload rfl rfl ?_
            refine x_aload rfl rfl ?_
            refine x_get rfl h.o rfl ?_
            refine x_iload rfl rfl ?_
            refine x_const rfl ?_
            refine x_iadd rfl ⟨by omega, by omega⟩ ?_
            refine x_rd (j := x + 3) rfl h.a2 (by omega) (by omega) (by rw [G2, sf_v _ hlo]) ?_
            refine x_iastN (j := x) rfl h.a2 (by omega) (by omega) rfl (fun μ e o => ?_)
            replace h := h.st (j := 2) (Nat.le_of_ble_eq_true rfl) e o
            clear e o
            refine x_iinc rfl rfl ⟨by omega, by omega⟩ ?_
            refine x_goto rfl ?_
            refine ih (x + 1) _ _ (by omega) (by omega) h G1 ?_ (fun j h1 h2 => ?_)
            · show am_fu (G 2) x _ = _
              rw [G2, sf_s _ hlo]
            · rw [am_fu_n h2]
              exact Go j h1 h2
      refine x_aload rfl rfl ?_
      refine x_iload rfl rfl ?_
      refine x_iload rfl rfl ?_
      refine x_callV2 rfl h.o (Nat.le_of_ble_eq_true rfl) ?_
      refine c_M_place h hb hm hlm ?_
      rw [pz_in hu]
      refine x_istore rfl (Nat.le_of_ble_eq_true rfl) ?_
      refine x_aload rfl rfl ?_
      refine x_get rfl h.o rfl ?_
      refine x_iload rfl rfl ?_
      refine x_dup2 rfl ?_
      refine x_rd (j := m) rfl h.a1 (by omega) (by omega) (b1) ?_
      refine x_const rfl ?_
      refine x_isub rfl ⟨by omega, by omega⟩ ?_
      refine x_iastN (j := m) rfl h.a1 (by omega) (by omega) rfl (fun μ e o => ?_)
      replace h := h.st (j := 1) (Nat.le_of_ble_eq_true rfl) e o
      clear e o
      refine x_const rfl ?_
      refine x_iload rfl rfl ?_
      refine x_imul rfl ⟨by omega, by omega⟩ ?_
      refine x_const rfl ?_
      refine x_iload rfl rfl ?_
      refine x_imul rfl ⟨by omega, by omega⟩ ?_
      refine x_iadd rfl ⟨by omega, by omega⟩ ?_
      refine x_istore rfl (Nat.le_of_ble_eq_true rfl) ?_
      refine loop (3 * ((B m).1.length - 1) - 3 * fp (B m).1 u) (36 * m + 3 * fp (B m).1 u) _ _ (by omega) (Nat.le_refl _) h rfl ?_ (fun j h1 h2 => ?_)
      · rw [sf_0]
        rfl
      · rw [am_fu_n h1]
  · have ek : kd = 3 := Classical.not_not.mp hc
    subst ek
    have hu : fp (B m).1 u < (B m).1.length := by
      rcases hv with ⟨k1, k2, k3⟩ | ⟨k1, k2⟩
      · exact absurd k1 (show ¬ (3 : Int) = 1 by decide)
      · exact k2
    refine x_aload rfl rfl ?_
    refine x_get rfl h.o rfl ?_
    refine x_const rfl ?_
    refine x_iload rfl rfl ?_
    refine x_imul rfl ⟨by omega, by omega⟩ ?_
    refine x_const rfl ?_
    refine x_aload rfl rfl ?_
    refine x_iload rfl rfl ?_
    refine x_iload rfl rfl ?_
    refine x_callV2 rfl h.o (Nat.le_of_ble_eq_true rfl) ?_
    refine c_M_place h hb hm hlm ?_
    rw [pz_in hu]
    refine x_imul rfl ⟨by omega, by omega⟩ ?_
    refine x_iadd rfl ⟨by omega, by omega⟩ ?_
    refine x_const rfl ?_
    refine x_iadd rfl ⟨by omega, by omega⟩ ?_
    refine x_aload rfl rfl ?_
    refine x_get rfl h.o rfl ?_
    refine x_iload rfl rfl ?_
    refine x_const rfl ?_
    refine x_iadd rfl ⟨by omega, by omega⟩ ?_
    refine x_rd (j := 5 * i + 3) rfl h.a0 (by omega) (by omega) (c3) ?_
    refine x_iastN (j := 36 * m + 3 * fp (B m).1 u + 1) rfl h.a2 (by omega) (by omega) rfl (fun μ e o => ?_)
    replace h := h.st (j := 2) (Nat.le_of_ble_eq_true rfl) e o
    clear e o
    refine x_aload rfl rfl ?_
    refine x_get rfl h.o rfl ?_
    refine x_iload rfl rfl ?_
    refine x_rd (j := 5 * i) rfl h.a0 (by omega) (by omega) (c0) ?_
    refine x_const rfl ?_
    refine x_icmp_ne rfl (fun hc => ?_) (fun hc => ?_)
    · refine x_aload rfl rfl ?_
      refine x_get rfl h.o rfl ?_
      refine x_iload rfl rfl ?_
      refine x_rd (j := 5 * i) rfl h.a0 (by omega) (by omega) (c0) ?_
      refine x_const rfl ?_
      refine x_icmp_ne rfl (fun hc => ?_) (fun hc => ?_)
      · refine x_vret rfl ?_
        refine hQ _ _ h ?_ (fun j hj => ?_)
        · rw [eA]
          have e1 : ap ((3 : Int), (m : Int), u, fl, z) (B m) = ((B m).1.set (fp (B m).1 u) ((mg (B m).1 (fp (B m).1 u)).1, fl, (mg (B m).1 (fp (B m).1 u)).2.2), (B m).2) := rfl
          rw [e1]
          refine RB.up hb hm hl ?_ (fun y hy => rfl) b2 (fun y hy => rfl) (fun k hk => ?_) (fun j hj => ?_)
          · rw [List.length_set]
            exact b1
          · have hk : k < ((B m).1.set (fp (B m).1 u) ((mg (B m).1 (fp (B m).1 u)).1, fl, (mg (B m).1 (fp (B m).1 u)).2.2)).length := hk
            rw [List.length_set] at hk
            rw [mg_set]
            show am_fu (g 2) (36 * m + 3 * fp (B m).1 u + 1) fl _ = _ ∧ am_fu (g 2) (36 * m + 3 * fp (B m).1 u + 1) fl _ = _ ∧ am_fu (g 2) (36 * m + 3 * fp (B m).1 u + 1) fl _ = _
            by_cases hkf : k = fp (B m).1 u
            · rw [if_pos ⟨hkf, hu⟩, hkf, am_fu_n (by omega), am_fu_s, am_fu_n (by omega)]
              exact ⟨(b3 _ hu).1, rfl, (b3 _ hu).2.2⟩
            · rw [if_neg (fun q => hkf q.1), am_fu_n (by omega), am_fu_n (by omega), am_fu_n (by omega)]
              exact b3 k hk
          · show am_fu (g 2) (36 * m + 3 * fp (B m).1 u + 1) fl j = _
            rw [am_fu_n (by omega)]
        · rw [am_fu_n (by omega)]
      · exact absurd (Classical.not_not.mp hc) (by decide)
    · exact absurd (Classical.not_not.mp hc) (by decide)
end R3
