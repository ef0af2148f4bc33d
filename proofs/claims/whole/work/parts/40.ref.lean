/-! the reference's cells: 50 .. 67 -/
section R0
variable {P : am_P} {d pc n k t : Nat} {code : Nat → am_I} {ls : am_L} {st : List am_V} {Q : Option am_V → am_M → Prop} {nn ss a ci b : Nat} {μ : Nat → Option am_C}
theorem x_rd {i z : Int} {N j : Nat} {f : Nat → Int} (hc : code pc = i_iald t n) (hm : μ a = some (.inr (.inl (t, N, f)))) (hj : i = (j : Int)) (h1 : j < N) (hv : f j = z) (h : am_Ex P d code (n, ls, .inl z :: st, nn, ss, μ) Q) : am_Ex P d code (pc, ls, .inl i :: .inr (some a) :: st, nn, ss, μ) Q := by
  subst hv
  exact x_ialdN hc hm hj h1 h
end R0
def mSz : List (Nat × Nat) := [(0, 8000), (0, 3), (0, 108), (0, 3), (0, 3), (0, 4), (1, 4), (0, 4), (0, 96), (0, 96), (0, 4), (0, 4), (0, 400), (0, 42), (0, 24), (1, 20), (0, 20)]
def mO (c e t f : Int) : am_C := .inl (5, [.inl c, .inl e, .inr (some 51), .inr (some 52), .inr (some 53), .inr (some 54), .inr (some 55), .inr (some 56), .inr (some 57), .inr (some 58), .inr (some 59), .inr (some 60), .inr (some 61), .inr (some 62), .inr (some 63), .inl t, .inr (some 64), .inl f, .inr (some 65), .inr (some 66), .inr (some 67)])
def mR (μ0 μ : Nat → Option am_C) (g : Nat → Nat → Int) (c e t f : Int) : Prop := μ 50 = some (mO c e t f) ∧ (∀ j, j < 17 → μ (51 + j) = some (.inr (.inl ((mSz.getD j (0, 0)).1, (mSz.getD j (0, 0)).2, g j)))) ∧ fr μ0 μ 50 68
section R1
variable {μ0 μ μ' : Nat → Option am_C} {g : Nat → Nat → Int} {c e t f c' e' t' f' : Int}
theorem mR.o (h : mR μ0 μ g c e t f) : μ 50 = some (.inl (5, [.inl c, .inl e, .inr (some 51), .inr (some 52), .inr (some 53), .inr (some 54), .inr (some 55), .inr (some 56), .inr (some 57), .inr (some 58), .inr (some 59), .inr (some 60), .inr (some 61), .inr (some 62), .inr (some 63), .inl t, .inr (some 64), .inl f, .inr (some 65), .inr (some 66), .inr (some 67)])) := h.1
theorem mR.a0 (h : mR μ0 μ g c e t f) : μ 51 = some (.inr (.inl (0, 8000, g 0))) := h.2.1 0 (by decide)
theorem mR.a1 (h : mR μ0 μ g c e t f) : μ 52 = some (.inr (.inl (0, 3, g 1))) := h.2.1 1 (by decide)
theorem mR.a2 (h : mR μ0 μ g c e t f) : μ 53 = some (.inr (.inl (0, 108, g 2))) := h.2.1 2 (by decide)
theorem mR.a3 (h : mR μ0 μ g c e t f) : μ 54 = some (.inr (.inl (0, 3, g 3))) := h.2.1 3 (by decide)
theorem mR.a4 (h : mR μ0 μ g c e t f) : μ 55 = some (.inr (.inl (0, 3, g 4))) := h.2.1 4 (by decide)
theorem mR.a5 (h : mR μ0 μ g c e t f) : μ 56 = some (.inr (.inl (0, 4, g 5))) := h.2.1 5 (by decide)
theorem mR.a6 (h : mR μ0 μ g c e t f) : μ 57 = some (.inr (.inl (1, 4, g 6))) := h.2.1 6 (by decide)
theorem mR.a7 (h : mR μ0 μ g c e t f) : μ 58 = some (.inr (.inl (0, 4, g 7))) := h.2.1 7 (by decide)
theorem mR.a8 (h : mR μ0 μ g c e t f) : μ 59 = some (.inr (.inl (0, 96, g 8))) := h.2.1 8 (by decide)
theorem mR.a9 (h : mR μ0 μ g c e t f) : μ 60 = some (.inr (.inl (0, 96, g 9))) := h.2.1 9 (by decide)
theorem mR.a10 (h : mR μ0 μ g c e t f) : μ 61 = some (.inr (.inl (0, 4, g 10))) := h.2.1 10 (by decide)
theorem mR.a11 (h : mR μ0 μ g c e t f) : μ 62 = some (.inr (.inl (0, 4, g 11))) := h.2.1 11 (by decide)
theorem mR.a12 (h : mR μ0 μ g c e t f) : μ 63 = some (.inr (.inl (0, 400, g 12))) := h.2.1 12 (by decide)
theorem mR.a13 (h : mR μ0 μ g c e t f) : μ 64 = some (.inr (.inl (0, 42, g 13))) := h.2.1 13 (by decide)
theorem mR.a14 (h : mR μ0 μ g c e t f) : μ 65 = some (.inr (.inl (0, 24, g 14))) := h.2.1 14 (by decide)
theorem mR.a15 (h : mR μ0 μ g c e t f) : μ 66 = some (.inr (.inl (1, 20, g 15))) := h.2.1 15 (by decide)
theorem mR.a16 (h : mR μ0 μ g c e t f) : μ 67 = some (.inr (.inl (0, 20, g 16))) := h.2.1 16 (by decide)
theorem mR.st {j k ty sz : Nat} {z : Int} (h : mR μ0 μ g c e t f) (hj : j < 17) (e1 : μ' (51 + j) = some (.inr (.inl (ty, sz, am_fu (g j) k z)))) (o : ∀ x, x ≠ 51 + j → μ' x = μ x) (hs : mSz.getD j (0, 0) = (ty, sz) := by rfl) : mR μ0 μ' (am_fu g j (am_fu (g j) k z)) c e t f := by
  obtain ⟨h1, h2, h3⟩ := h
  refine ⟨by rw [o 50 (by omega)]; exact h1, fun i hi => ?_, fun x hx => by rw [o x (by omega)]; exact h3 x hx⟩
  by_cases hij : i = j
  · rw [hij, am_fu_s, e1, hs]
  · rw [am_fu_n hij, o (51 + i) (by omega)]
    exact h2 i hi
theorem mR.pt (h : mR μ0 μ g c e t f) (e1 : μ' 50 = some (.inl (5, [.inl c', .inl e', .inr (some 51), .inr (some 52), .inr (some 53), .inr (some 54), .inr (some 55), .inr (some 56), .inr (some 57), .inr (some 58), .inr (some 59), .inr (some 60), .inr (some 61), .inr (some 62), .inr (some 63), .inl t', .inr (some 64), .inl f', .inr (some 65), .inr (some 66), .inr (some 67)]))) (o : ∀ x, x ≠ 50 → μ' x = μ x) : mR μ0 μ' g c' e' t' f' :=
  ⟨e1, fun i hi => by rw [o (51 + i) (by omega)]; exact h.2.1 i hi, fun x hx => by rw [o x (by omega)]; exact h.2.2 x hx⟩
end R1
/-- the mailboxes -/
def RB (g : Nat → Nat → Int) (B : Nat → mv_B) : Prop := ∀ m, m < 3 → g 1 m = (B m).1.length ∧ g 3 m = (B m).2 ∧ ∀ k, k < (B m).1.length → g 2 (36 * m + 3 * k) = (mg (B m).1 k).1 ∧ g 2 (36 * m + 3 * k + 1) = (mg (B m).1 k).2.1 ∧ g 2 (36 * m + 3 * k + 2) = (mg (B m).1 k).2.2
/-- the changes -/
def RL (g : Nat → Nat → Int) (lg : List mv_H) : Prop := ∀ i, i < lg.length → g 0 (5 * i) = (hg lg i).1 ∧ g 0 (5 * i + 1) = (hg lg i).2.1 ∧ g 0 (5 * i + 2) = (hg lg i).2.2.1 ∧ g 0 (5 * i + 3) = (hg lg i).2.2.2.1 ∧ g 0 (5 * i + 4) = (hg lg i).2.2.2.2
theorem RB.cg {g g' : Nat → Nat → Int} {B : Nat → mv_B} (h : RB g B) (h1 : g' 1 = g 1) (h2 : g' 2 = g 2) (h3 : g' 3 = g 3) : RB g' B := by
  unfold RB
  rw [h1, h2, h3]
  exact h
theorem RL.cg {g g' : Nat → Nat → Int} {lg : List mv_H} (h : RL g lg) (h1 : g' 0 = g 0) : RL g' lg := by
  unfold RL
  rw [h1]
  exact h
theorem pz_in {l : List mv_Q} {u : Int} (h : fp l u < l.length) : pz l u = (fp l u : Int) := by
  unfold pz
  rw [if_pos h]
theorem pz_out {l : List mv_Q} {u : Int} (h : ¬ fp l u < l.length) : pz l u = -1 := by
  unfold pz
  rw [if_neg h]
section R2
variable {d nn ss : Nat} {μ0 μ : Nat → Option am_C} {Q : Option am_V → am_M → Prop} {g : Nat → Nat → Int} {c e t f : Int} {B : Nat → mv_B} {lg : List mv_H} {du : Nat}
theorem c_M_in {x lo hi : Int} (h1 : lo ≤ x ∧ x ≤ hi → Q (some (.inl 1)) (nn, ss, μ)) (h0 : ¬ (lo ≤ x ∧ x ≤ hi) → Q (some (.inl 0)) (nn, ss, μ)) : am_Wp mv_P (d + 1) jM_in [.inl x, .inl lo, .inl hi] (nn, ss, μ) Q := by
  refine am_wp pM_in (Nat.le_of_ble_eq_true rfl) ?_
  refine x_iload rfl rfl ?_
  refine x_iload rfl rfl ?_
  refine x_icmp_lt rfl (fun hc => ?_) (fun hc => ?_)
  · refine x_const rfl ?_
    refine x_zret rfl (by first | exact Or.inl rfl | exact Or.inr rfl | assumption | omega) ?_
    exact h0 (by omega)
  · refine x_iload rfl rfl ?_
    refine x_iload rfl rfl ?_
    refine x_icmp_gt rfl (fun hc => ?_) (fun hc => ?_)
    · refine x_const rfl ?_
      refine x_zret rfl (by first | exact Or.inl rfl | exact Or.inr rfl | assumption | omega) ?_
      exact h0 (by omega)
    · refine x_const rfl ?_
      refine x_goto rfl ?_
      refine x_zret rfl (by first | exact Or.inl rfl | exact Or.inr rfl | assumption | omega) ?_
      exact h1 (by omega)
theorem c_M_place {m : Nat} {u : Int} (h : mR μ0 μ g c e t f) (hb : RB g B) (hm : m < 3) (h12 : (B m).1.length ≤ 12) (hQ : Q (some (.inl (pz (B m).1 u))) (nn, ss, μ)) : am_Wp mv_P (d + 1) jM_place [.inr (some 50), .inl m, .inl u] (nn, ss, μ) Q := by
  obtain ⟨b1, b2, b3⟩ := hb m hm
  have loop : ∀ (r k : Nat), k + r = (B m).1.length → (∀ j, j < k → (mg (B m).1 j).1 ≠ u) → am_Ex mv_P d (am_at kM_place) (2, [some (.inr (some 50)), some (.inl (m : Int)), some (.inl u), some (.inl (k : Int))], [], nn, ss, μ) Q := by
    intro r
    induction r with
    | zero =>
      intro k hk hn
      refine x_iload rfl rfl ?_
      refine x_aload rfl rfl ?_
      refine x_get rfl h.o rfl ?_
      refine x_iload rfl rfl ?_
      refine x_rd (j := m) rfl h.a1 (by omega) (by omega) (b1) ?_
      refine x_icmp_ge rfl (fun hc => ?_) (fun hc => ?_)
      · refine x_const rfl ?_
        refine x_iret rfl ?_
        rw [show pz (B m).1 u = -1 from pz_out (by rw [fp_no (fun j hj => hn j (by omega))]; omega)] at hQ
        exact hQ
      · exact absurd hc (by omega)
    | succ r ih =>
      intro k hk hn
      refine x_iload rfl rfl ?_
      refine x_aload rfl rfl ?_
      refine x_get rfl h.o rfl ?_
      refine x_iload rfl rfl ?_
      refine x_rd (j := m) rfl h.a1 (by omega) (by omega) (b1) ?_
      refine x_icmp_ge rfl (fun hc => ?_) (fun hc => ?_)
      · exact absurd hc (by omega)
      · refine x_aload rfl rfl ?_
        refine x_get rfl h.o rfl ?_
        refine x_const rfl ?_
        refine x_iload rfl rfl ?_
        refine x_imul rfl ⟨by omega, by omega⟩ ?_
        refine x_const rfl ?_
        refine x_iload rfl rfl ?_
        refine x_imul rfl ⟨by omega, by omega⟩ ?_
        refine x_iadd rfl ⟨by omega, by omega⟩ ?_
        refine x_rd (j := 36 * m + 3 * k) rfl h.a2 (by omega) (by omega) ((b3 k (by omega)).1) ?_
        refine x_iload rfl rfl ?_
        refine x_icmp_ne rfl (fun hc => ?_) (fun hc => ?_)
        · refine x_iinc rfl rfl ⟨by omega, by omega⟩ ?_
          refine x_goto rfl ?_
          refine ih (k + 1) (by omega) (fun j hj => ?_)
          rcases Nat.lt_or_ge j k with hjk | hjk
          · exact hn j hjk
          · rw [show j = k by omega]
            exact hc
        · refine x_iload rfl rfl ?_
          refine x_iret rfl ?_
          have ek := fp_is (k := k) (by omega) (Classical.not_not.mp hc) hn
          rw [pz_in (by rw [ek]; omega), ek] at hQ
          exact hQ
  refine am_wp pM_place (Nat.le_of_ble_eq_true rfl) ?_
  refine x_const rfl ?_
  refine x_istore rfl (Nat.le_of_ble_eq_true rfl) ?_
  exact loop (B m).1.length 0 (by omega) (fun j hj => by omega)
theorem c_M_flagsOf {m : Nat} {u : Int} (h : mR μ0 μ g c e t f) (hb : RB g B) (hm : m < 3) (h12 : (B m).1.length ≤ 12) (hu : fp (B m).1 u < (B m).1.length) (hQ : Q (some (.inl (mg (B m).1 (fp (B m).1 u)).2.1)) (nn, ss, μ)) : am_Wp mv_P (d + 2) jM_flagsOf [.inr (some 50), .inl m, .inl u] (nn, ss, μ) Q := by
  obtain ⟨b1, b2, b3⟩ := hb m hm
  refine am_wp pM_flagsOf (Nat.le_of_ble_eq_true rfl) ?_
  refine x_aload rfl rfl ?_
  refine x_get rfl h.o rfl ?_
  refine x_const rfl ?_
  refine x_iload rfl rfl ?_
  refine x_imul rfl ⟨by omega, by omega⟩ ?_
  refine x_const rfl ?_
  refine x_aload rfl rfl ?_
  refine x_iload rfl rfl ?_
  refine x_iload rfl rfl ?_
  refine x_callV2 rfl h.o (Nat.le_of_ble_eq_true rfl) ?_
  refine c_M_place h hb hm h12 ?_
  rw [pz_in hu]
  refine x_imul rfl ⟨by omega, by omega⟩ ?_
  refine x_iadd rfl ⟨by omega, by omega⟩ ?_
  refine x_const rfl ?_
  refine x_iadd rfl ⟨by omega, by omega⟩ ?_
  refine x_rd (j := 36 * m + 3 * fp (B m).1 u + 1) rfl h.a2 (by omega) (by omega) ((b3 _ hu).2.1) ?_
  refine x_iret rfl ?_
  exact hQ
end R2
