/-! the class's constructors -/
section In1
variable {P : am_P} {d pc n k t : Nat} {code : Nat → am_I} {ls : am_L} {st : List am_V} {Q : Option am_V → am_M → Prop} {nn ss a ci b : Nat} {μ : Nat → Option am_C}
theorem x_newG {fs : List am_V} (hc : code pc = i_new ci fs n) (h : ∀ μ', μ' nn = some (.inl (ci, fs)) → (∀ x, x ≠ nn → μ' x = μ x) → am_Ex P d code (n, ls, .inr (some nn) :: st, nn + 1, ss + fs.length, μ') Q) : am_Ex P d code (pc, ls, st, nn, ss, μ) Q :=
  x_new hc (h _ am_up_s (fun _ hx => am_up_n hx))
theorem x_newaG {i : Int} {N : Nat} (hc : code pc = i_newa t n) (h0 : i = (N : Int)) (h1 : N ≤ 100000) (h : ∀ μ', μ' nn = some (.inr (.inl (t, N, fun _ => 0))) → (∀ x, x ≠ nn → μ' x = μ x) → am_Ex P d code (n, ls, .inr (some nn) :: st, nn + 1, ss + N, μ') Q) : am_Ex P d code (pc, ls, .inl i :: st, nn, ss, μ) Q := by
  subst h0
  exact x_newa hc (by omega) (by omega) (h _ am_up_s (fun _ hx => am_up_n hx))
theorem x_anewaG {i : Int} {N : Nat} (hc : code pc = i_anewa t n) (h0 : i = (N : Int)) (h1 : N ≤ 100000) (h : ∀ μ', μ' nn = some (.inr (.inr (t, N, fun _ => none))) → (∀ x, x ≠ nn → μ' x = μ x) → am_Ex P d code (n, ls, .inr (some nn) :: st, nn + 1, ss + N, μ') Q) : am_Ex P d code (pc, ls, .inl i :: st, nn, ss, μ) Q := by
  subst h0
  exact x_anewa hc (by omega) (by omega) (h _ am_up_s (fun _ hx => am_up_n hx))
/-- `this.k = new int[N]` -/
theorem x_arr {N pc1 pc2 pc3 pc4 k l0 : Nat} {fs : List am_V} (c1 : code pc = i_aload l0 pc1) (c2 : code pc1 = i_const (N : Int) pc2) (c3 : code pc2 = i_newa t pc3) (c4 : code pc3 = i_put ci k 2 pc4) (hl : ls[l0]? = some (some (.inr (some a)))) (hN : N ≤ 100000) (hm : μ a = some (.inl (ci, fs))) (ha : a < nn) (hk : k < fs.length) (h : ∀ μ', μ' a = some (.inl (ci, fs.set k (.inr (some nn)))) → μ' nn = some (.inr (.inl (t, N, fun _ => 0))) → (∀ x, x ≠ a → x ≠ nn → μ' x = μ x) → am_Ex P d code (pc4, ls, st, nn + 1, ss + N, μ') Q) : am_Ex P d code (pc, ls, st, nn, ss, μ) Q := by
  refine x_aload c1 hl ?_
  refine x_const c2 ?_
  refine x_newaG c3 rfl hN (fun μ1 h1 h2 => ?_)
  refine x_putG c4 (by rw [h2 a (by omega)]; exact hm) hk rfl (fun μ2 h3 h4 => ?_)
  refine h μ2 h3 (by rw [h4 nn (by omega)]; exact h1) (fun x hx1 hx2 => by rw [h4 x hx1, h2 x hx2])
/-- `this.k = z` -/
theorem x_setf {pc1 pc2 pc3 k l0 b : Nat} {z : Int} {fs : List am_V} (c1 : code pc = i_aload l0 pc1) (c2 : code pc1 = i_const z pc2) (c4 : code pc2 = i_put ci k b pc3) (hl : ls[l0]? = some (some (.inr (some a)))) (hm : μ a = some (.inl (ci, fs))) (hk : k < fs.length) (hz : am_fit b (.inl z) = true) (h : ∀ μ', μ' a = some (.inl (ci, fs.set k (.inl z))) → (∀ x, x ≠ a → μ' x = μ x) → am_Ex P d code (pc3, ls, st, nn, ss, μ') Q) : am_Ex P d code (pc, ls, st, nn, ss, μ) Q := by
  refine x_aload c1 hl ?_
  refine x_const c2 ?_
  exact x_putG c4 hm hk hz h
theorem x_obj {pc1 l0 : Nat} (hP : P 0 = (1, am_at [(0, i_vret)])) (c1 : code pc = i_aload l0 pc1) (c2 : code pc1 = i_callI 0 0 n) (hl : ls[l0]? = some (some (.inr (some a)))) (h8 : st.length ≤ 8) (h : am_Ex P (d + 1) code (n, ls, st, nn, ss, μ) Q) : am_Ex P (d + 1) code (pc, ls, st, nn, ss, μ) Q := by
  refine x_aload c1 hl ?_
  refine x_callI0 c2 h8 ?_
  refine am_wp hP (Nat.le_refl _) ?_
  exact x_vret rfl h
end In1
section In2
variable {d nn ss a : Nat} {μ : Nat → Option am_C} {Q : Option am_V → am_M → Prop}
theorem c_B_init (hm : μ a = some (.inl (1, [.inr none, .inr none, .inr none, .inl 0, .inl 0, .inl 0]))) (hQ : ∀ μ', bxA μ' a (fun _ => (0, 0, 0)) 0 1 1 → fr μ μ' a (a + 4) → Q none (a + 4, ss + 36, μ')) : am_Wp mv_P (d + 2) jB_init [.inr (some a)] (a + 1, ss, μ) Q := by
  refine am_wp pB_init (Nat.le_of_ble_eq_true rfl) ?_
  refine x_obj rfl rfl rfl rfl (Nat.le_of_ble_eq_true rfl) ?_
  refine x_arr (N := 12) rfl rfl rfl rfl rfl (by decide) hm (by omega) (Nat.le_of_ble_eq_true rfl) (fun μ1 h1 e1 f1 => ?_)
  refine x_arr (N := 12) rfl rfl rfl rfl rfl (by decide) h1 (by omega) (Nat.le_of_ble_eq_true rfl) (fun μ2 h2 e2 f2 => ?_)
  refine x_arr (N := 12) rfl rfl rfl rfl rfl (by decide) h2 (by omega) (Nat.le_of_ble_eq_true rfl) (fun μ3 h3 e3 f3 => ?_)
  refine x_setf rfl rfl rfl rfl h3 (Nat.le_of_ble_eq_true rfl) rfl (fun μ4 h4 f4 => ?_)
  refine x_setf rfl rfl rfl rfl h4 (Nat.le_of_ble_eq_true rfl) rfl (fun μ5 h5 f5 => ?_)
  refine x_setf rfl rfl rfl rfl h5 (Nat.le_of_ble_eq_true rfl) rfl (fun μ6 h6 f6 => ?_)
  refine x_vret rfl ?_
  refine hQ μ6 ⟨h6, ?_, ?_, ?_⟩ (fun x hx => ?_)
  · rw [f6 _ (by omega), f5 _ (by omega), f4 _ (by omega), f3 _ (by omega) (by omega), f2 _ (by omega) (by omega), e1]
  · rw [f6 _ (by omega), f5 _ (by omega), f4 _ (by omega), f3 _ (by omega) (by omega), e2]
  · rw [f6 _ (by omega), f5 _ (by omega), f4 _ (by omega), e3]
  · rw [f6 _ (by omega), f5 _ (by omega), f4 _ (by omega), f3 _ (by omega) (by omega), f2 _ (by omega) (by omega), f1 _ (by omega) (by omega)]
theorem c_S_init (hm : μ a = some (.inl (3, [.inr none, .inr none, .inr none, .inr none, .inl 0, .inl 0, .inl 0, .inl 0, .inl 0]))) (hQ : ∀ μ', seA μ' a (fun _ => (0, 0)) (fun _ => (0, 0)) 0 0 (-1) 0 0 → fr μ μ' a (a + 5) → Q none (a + 5, ss + 146, μ')) : am_Wp mv_P (d + 2) jS_init [.inr (some a)] (a + 1, ss, μ) Q := by
  refine am_wp pS_init (Nat.le_of_ble_eq_true rfl) ?_
  refine x_obj rfl rfl rfl rfl (Nat.le_of_ble_eq_true rfl) ?_
  refine x_arr (N := 24) rfl rfl rfl rfl rfl (by decide) hm (by omega) (Nat.le_of_ble_eq_true rfl) (fun μ1 h1 e1 f1 => ?_)
  refine x_arr (N := 24) rfl rfl rfl rfl rfl (by decide) h1 (by omega) (Nat.le_of_ble_eq_true rfl) (fun μ2 h2 e2 f2 => ?_)
  refine x_arr (N := 49) rfl rfl rfl rfl rfl (by decide) h2 (by omega) (Nat.le_of_ble_eq_true rfl) (fun μ3 h3 e3 f3 => ?_)
  refine x_arr (N := 49) rfl rfl rfl rfl rfl (by decide) h3 (by omega) (Nat.le_of_ble_eq_true rfl) (fun μ4 h4 e4 f4 => ?_)
  refine x_setf rfl rfl rfl rfl h4 (Nat.le_of_ble_eq_true rfl) rfl (fun μ5 h5 f5 => ?_)
  refine x_setf rfl rfl rfl rfl h5 (Nat.le_of_ble_eq_true rfl) rfl (fun μ6 h6 f6 => ?_)
  refine x_setf rfl rfl rfl rfl h6 (Nat.le_of_ble_eq_true rfl) rfl (fun μ7 h7 f7 => ?_)
  refine x_setf rfl rfl rfl rfl h7 (Nat.le_of_ble_eq_true rfl) rfl (fun μ8 h8 f8 => ?_)
  refine x_setf rfl rfl rfl rfl h8 (Nat.le_of_ble_eq_true rfl) rfl (fun μ9 h9 f9 => ?_)
  refine x_vret rfl ?_
  have f : ∀ x, x ≠ a → μ9 x = μ4 x := fun x hx => by rw [f9 _ hx, f8 _ hx, f7 _ hx, f6 _ hx, f5 _ hx]
  refine hQ μ9 ⟨h9, ?_, ?_, ?_, ?_⟩ (fun x hx => ?_)
  · rw [f _ (by omega), f4 _ (by omega) (by omega), f3 _ (by omega) (by omega), f2 _ (by omega) (by omega), e1]
  · rw [f _ (by omega), f4 _ (by omega) (by omega), f3 _ (by omega) (by omega), e2]
  · rw [f _ (by omega), f4 _ (by omega) (by omega), e3]
  · rw [f _ (by omega), e4]
  · rw [f _ (by omega), f4 _ (by omega) (by omega), f3 _ (by omega) (by omega), f2 _ (by omega) (by omega), f1 _ (by omega) (by omega)]
theorem c_J_init (hm : μ a = some (.inl (2, [.inr none, .inr none, .inr none, .inr none, .inr none, .inl 0, .inl 0]))) (hQ : ∀ μ', jr μ' a (fun _ => (0, 0, 0, 0, 0)) 0 0 → fr μ μ' a (a + 6) → Q none (a + 6, ss + 40, μ')) : am_Wp mv_P (d + 2) jJ_init [.inr (some a)] (a + 1, ss, μ) Q := by
  refine am_wp pJ_init (Nat.le_of_ble_eq_true rfl) ?_
  refine x_obj rfl rfl rfl rfl (Nat.le_of_ble_eq_true rfl) ?_
  refine x_arr (N := 8) rfl rfl rfl rfl rfl (by decide) hm (by omega) (Nat.le_of_ble_eq_true rfl) (fun μ1 h1 e1 f1 => ?_)
  refine x_arr (N := 8) rfl rfl rfl rfl rfl (by decide) h1 (by omega) (Nat.le_of_ble_eq_true rfl) (fun μ2 h2 e2 f2 => ?_)
  refine x_arr (N := 8) rfl rfl rfl rfl rfl (by decide) h2 (by omega) (Nat.le_of_ble_eq_true rfl) (fun μ3 h3 e3 f3 => ?_)
  refine x_arr (N := 8) rfl rfl rfl rfl rfl (by decide) h3 (by omega) (Nat.le_of_ble_eq_true rfl) (fun μ4 h4 e4 f4 => ?_)
  refine x_arr (N := 8) rfl rfl rfl rfl rfl (by decide) h4 (by omega) (Nat.le_of_ble_eq_true rfl) (fun μ5 h5 e5 f5 => ?_)
  refine x_setf rfl rfl rfl rfl h5 (Nat.le_of_ble_eq_true rfl) rfl (fun μ6 h6 f6 => ?_)
  refine x_setf rfl rfl rfl rfl h6 (Nat.le_of_ble_eq_true rfl) rfl (fun μ7 h7 f7 => ?_)
  refine x_vret rfl ?_
  have f : ∀ x, x ≠ a → μ7 x = μ5 x := fun x hx => by rw [f7 _ hx, f6 _ hx]
  refine hQ μ7 ⟨h7, ?_, ?_, ?_, ?_, ?_⟩ (fun x hx => ?_)
  · rw [f _ (by omega), f5 _ (by omega) (by omega), f4 _ (by omega) (by omega), f3 _ (by omega) (by omega), f2 _ (by omega) (by omega), e1]
  · rw [f _ (by omega), f5 _ (by omega) (by omega), f4 _ (by omega) (by omega), f3 _ (by omega) (by omega), e2]
  · rw [f _ (by omega), f5 _ (by omega) (by omega), f4 _ (by omega) (by omega), e3]
  · rw [f _ (by omega), f5 _ (by omega) (by omega), e4]
  · rw [f _ (by omega), e5]
  · rw [f _ (by omega), f5 _ (by omega) (by omega), f4 _ (by omega) (by omega), f3 _ (by omega) (by omega), f2 _ (by omega) (by omega), f1 _ (by omega) (by omega)]
theorem c_C_init (hm : μ a = some (.inl (4, [.inr none, .inr none, .inr none, .inr none, .inr none, .inr none, .inl 0]))) (hQ : ∀ μ', ctA μ' a (fun _ => (0, 0, 0)) (fun _ => (0, 0)) (fun _ => 0) 0 → fr μ μ' a (a + 7) → Q none (a + 7, ss + 84, μ')) : am_Wp mv_P (d + 2) jC_init [.inr (some a)] (a + 1, ss, μ) Q := by
  refine am_wp pC_init (Nat.le_of_ble_eq_true rfl) ?_
  refine x_obj rfl rfl rfl rfl (Nat.le_of_ble_eq_true rfl) ?_
  refine x_arr (N := 14) rfl rfl rfl rfl rfl (by decide) hm (by omega) (Nat.le_of_ble_eq_true rfl) (fun μ1 h1 e1 f1 => ?_)
  refine x_arr (N := 14) rfl rfl rfl rfl rfl (by decide) h1 (by omega) (Nat.le_of_ble_eq_true rfl) (fun μ2 h2 e2 f2 => ?_)
  refine x_arr (N := 14) rfl rfl rfl rfl rfl (by decide) h2 (by omega) (Nat.le_of_ble_eq_true rfl) (fun μ3 h3 e3 f3 => ?_)
  refine x_arr (N := 14) rfl rfl rfl rfl rfl (by decide) h3 (by omega) (Nat.le_of_ble_eq_true rfl) (fun μ4 h4 e4 f4 => ?_)
  refine x_arr (N := 14) rfl rfl rfl rfl rfl (by decide) h4 (by omega) (Nat.le_of_ble_eq_true rfl) (fun μ5 h5 e5 f5 => ?_)
  refine x_arr (N := 14) rfl rfl rfl rfl rfl (by decide) h5 (by omega) (Nat.le_of_ble_eq_true rfl) (fun μ6 h6 e6 f6 => ?_)
  refine x_setf rfl rfl rfl rfl h6 (Nat.le_of_ble_eq_true rfl) rfl (fun μ7 h7 f7 => ?_)
  refine x_vret rfl ?_
  refine hQ μ7 ⟨h7, ?_, ?_, ?_, ?_, ?_, ?_⟩ (fun x hx => ?_)
  · rw [f7 _ (by omega), f6 _ (by omega) (by omega), f5 _ (by omega) (by omega), f4 _ (by omega) (by omega), f3 _ (by omega) (by omega), f2 _ (by omega) (by omega), e1]
  · rw [f7 _ (by omega), f6 _ (by omega) (by omega), f5 _ (by omega) (by omega), f4 _ (by omega) (by omega), f3 _ (by omega) (by omega), e2]
  · rw [f7 _ (by omega), f6 _ (by omega) (by omega), f5 _ (by omega) (by omega), f4 _ (by omega) (by omega), e3]
  · rw [f7 _ (by omega), f6 _ (by omega) (by omega), f5 _ (by omega) (by omega), e4]
  · rw [f7 _ (by omega), f6 _ (by omega) (by omega), e5]
  · rw [f7 _ (by omega), e6]
  · rw [f7 _ (by omega), f6 _ (by omega) (by omega), f5 _ (by omega) (by omega), f4 _ (by omega) (by omega), f3 _ (by omega) (by omega), f2 _ (by omega) (by omega), f1 _ (by omega) (by omega)]
def mv_S0 : mv_T := (([], 0), (fun _ => 1), (fun _ => (-1, 0, 0, [], [])), [], [])
theorem c_V_init (hm : μ 1 = some (.inl (0, [.inr none, .inr none, .inr none, .inr none, .inr none, .inl 0]))) (hQ : ∀ μ' ss', VR μ' mv_S0 → ss' ≤ ss + 1000 → Q none (50, ss', μ')) : am_Wp mv_P (d + 3) jV_init [.inr (some 1)] (2, ss, μ) Q := by
  have tail : ∀ (μ' : Nat → Option am_C) (x : Option am_V), μ' 1 = some (.inl (0, [.inr (some 2), .inr (some 15), .inr none, .inr none, .inr none, .inl 0])) → vaP μ' → (∀ m, m < 3 → bxA μ' (3 + 4 * m) (fun _ => (0, 0, 0)) 0 1 1) → (∀ m, m < 4 → seA μ' (16 + 5 * m) (fun _ => (0, 0)) (fun _ => (0, 0)) 0 0 (-1) 0 0) → am_Ex mv_P (d + 2) (am_at kV_init) (72, [some (.inr (some 1)), x], [], 36, ss + 753, μ') Q := by
    intro μ0 x h0 hva hB hS
    refine x_aload rfl rfl ?_
    refine x_newG rfl (fun μ1 e1 f1 => ?_)
    refine x_dup rfl ?_
    refine x_callI0 rfl (Nat.le_of_ble_eq_true rfl) ?_
    refine c_J_init (a := 36) e1 (fun μ2 hJ2 f2 => ?_)
    refine x_putG rfl (show μ2 1 = _ by rw [f2 1 (by omega), f1 1 (by omega)]; exact h0) (Nat.le_of_ble_eq_true rfl) rfl (fun μ3 h3 f3 => ?_)
    refine x_aload rfl rfl ?_
    refine x_newG rfl (fun μ4 e4 f4 => ?_)
    refine x_dup rfl ?_
    refine x_callI0 rfl (Nat.le_of_ble_eq_true rfl) ?_
    refine c_C_init (a := 42) e4 (fun μ5 hC5 f5 => ?_)
    refine x_putG rfl (show μ5 1 = _ by rw [f5 1 (by omega), f4 1 (by omega)]; exact h3) (Nat.le_of_ble_eq_true rfl) rfl (fun μ6 h6 f6 => ?_)
    refine x_arr (N := 24) rfl rfl rfl rfl rfl (by decide) h6 (by omega) (Nat.le_of_ble_eq_true rfl) (fun μ7 h7 e7 f7 => ?_)
    refine x_setf rfl rfl rfl rfl h7 (Nat.le_of_ble_eq_true rfl) rfl (fun μ8 h8 f8 => ?_)
    refine x_vret rfl ?_
    have g : fr μ5 μ8 1 2 ∨ True := Or.inr trivial
    have f58 : ∀ x, x ≠ 1 → x ≠ 49 → μ8 x = μ5 x := fun x h1 h2 => by rw [f8 _ h1, f7 _ h1 h2, f6 _ h1]
    have f08 : ∀ x, 1 < x → x < 36 → μ8 x = μ0 x := fun x h1 h2 => by rw [f58 _ (by omega) (by omega), f5 _ (by omega), f4 _ (by omega), f3 _ (by omega), f2 _ (by omega), f1 _ (by omega)]
    have f28 : ∀ x, 36 ≤ x → x < 42 → μ8 x = μ2 x := fun x h1 h2 => by rw [f58 _ (by omega) (by omega), f5 _ (by omega), f4 _ (by omega), f3 _ (by omega)]
    refine hQ μ8 _ ⟨fun _ => (0, 0, 0, 0, 0), ⟨h8, ?_, fun m hm => ?_, fun s hs => ?_, ?_, ?_, ?_⟩, fun k hk => absurd hk (Nat.not_lt_zero _)⟩ ?_
    · obtain ⟨⟨f, g1, g2⟩, f', g3, g4⟩ := hva
      exact ⟨⟨f, by rw [f08 2 (by omega) (by omega)]; exact g1, g2⟩, f', by rw [f08 15 (by omega) (by omega)]; exact g3, g4⟩
    · refine ⟨fun _ => (0, 0, 0), ?_, Nat.zero_le _, fun k hk => absurd hk (Nat.not_lt_zero _)⟩
      obtain ⟨q1, q2, q3, q4⟩ := hB m hm
      exact ⟨by rw [f08 _ (by omega) (by omega)]; exact q1, by rw [f08 _ (by omega) (by omega)]; exact q2, by rw [f08 _ (by omega) (by omega)]; exact q3, by rw [f08 _ (by omega) (by omega)]; exact q4⟩
    · refine ⟨fun _ => (0, 0), fun _ => (0, 0), ?_, fun k hk => absurd hk (Nat.not_lt_zero _), fun k hk => absurd hk (Nat.not_lt_zero _), Nat.zero_le _, Nat.zero_le _, Or.inl rfl⟩
      obtain ⟨q1, q2, q3, q4, q5⟩ := hS s hs
      exact ⟨by rw [f08 _ (by omega) (by omega)]; exact q1, by rw [f08 _ (by omega) (by omega)]; exact q2, by rw [f08 _ (by omega) (by omega)]; exact q3, by rw [f08 _ (by omega) (by omega)]; exact q4, by rw [f08 _ (by omega) (by omega)]; exact q5⟩
    · obtain ⟨q1, q2, q3, q4, q5, q6⟩ := hJ2
      exact ⟨by rw [f28 _ (by omega) (by omega)]; exact q1, by rw [f28 _ (by omega) (by omega)]; exact q2, by rw [f28 _ (by omega) (by omega)]; exact q3, by rw [f28 _ (by omega) (by omega)]; exact q4, by rw [f28 _ (by omega) (by omega)]; exact q5, by rw [f28 _ (by omega) (by omega)]; exact q6⟩
    · refine ⟨fun _ => (0, 0, 0), fun _ => (0, 0), fun _ => 0, ?_, Nat.zero_le _, fun k hk => absurd hk (Nat.not_lt_zero _)⟩
      obtain ⟨q1, q2, q3, q4, q5, q6, q7⟩ := hC5
      exact ⟨by rw [f58 _ (by omega) (by omega)]; exact q1, by rw [f58 _ (by omega) (by omega)]; exact q2, by rw [f58 _ (by omega) (by omega)]; exact q3, by rw [f58 _ (by omega) (by omega)]; exact q4, by rw [f58 _ (by omega) (by omega)]; exact q5, by rw [f58 _ (by omega) (by omega)]; exact q6, by rw [f58 _ (by omega) (by omega)]; exact q7⟩
    · exact ⟨fun _ => 0, by rw [f8 _ (by omega)]; exact e7, Nat.zero_le _, fun k hk => absurd hk (Nat.not_lt_zero _)⟩
    · simp only [List.length_cons, List.length_nil]
      omega
  have loop2 : ∀ (r i : Nat) (μ' : Nat → Option am_C) (f : Nat → Option Nat), i + r = 4 → μ' 1 = some (.inl (0, [.inr (some 2), .inr (some 15), .inr none, .inr none, .inr none, .inl 0])) → (∃ f, μ' 2 = some (.inr (.inr (2, 3, f))) ∧ ∀ m, m < 3 → f m = some (3 + 4 * m)) → μ' 15 = some (.inr (.inr (3, 4, f))) → (∀ m, m < i → f m = some (16 + 5 * m)) → (∀ m, m < 3 → bxA μ' (3 + 4 * m) (fun _ => (0, 0, 0)) 0 1 1) → (∀ m, m < i → seA μ' (16 + 5 * m) (fun _ => (0, 0)) (fun _ => (0, 0)) 0 0 (-1) 0 0) → am_Ex mv_P (d + 2) (am_at kV_init) (48, [some (.inr (some 1)), some (.inl (i : Int))], [], 16 + 5 * i, ss + 133 + 155 * i, μ') Q := by
    intro r
    induction r with
    | zero =>
      intro i μ' f hi h0 h2 h15 hf hB hS
      have ei : i = 4 := by omega
      subst ei
      refine x_iload rfl rfl ?_
      refine x_const rfl ?_
      refine x_icmp_ge rfl (fun hc => ?_) (fun hc => ?_)
      · exact tail μ' _ h0 ⟨h2, f, h15, hf⟩ hB hS
      · exact absurd hc (by decide)
    | succ r ih =>
      intro i μ' f hi h0 h2 h15 hf hB hS
      refine x_iload rfl rfl ?_
      refine x_const rfl ?_
      refine x_icmp_ge rfl (fun hc => ?_) (fun hc => ?_)
      · exact absurd hc (by omega)
      · refine x_aload rfl rfl ?_
        refine x_get rfl (by assumption) rfl ?_
        refine x_iload rfl rfl ?_
        refine x_newG rfl (fun μ1 e1 f1 => ?_)
        refine x_dup rfl ?_
        refine x_callI0 rfl (Nat.le_of_ble_eq_true rfl) ?_
        refine c_S_init e1 (fun μ2 hS2 f2 => ?_)
        have hk : ∀ x, x < 16 + 5 * i → μ2 x = μ' x := fun x hx => by rw [f2 _ (by omega), f1 _ (by omega)]
        refine x_aastN (j := i) rfl (show μ2 15 = _ by rw [hk 15 (by omega)]; exact h15) hS2.1 rfl (by omega) (fun μ3 e3 f3 => ?_)
        refine x_iinc rfl rfl ⟨by omega, by omega⟩ ?_
        refine x_goto rfl ?_
        have hk3 : ∀ x, x < 16 + 5 * i → x ≠ 15 → μ3 x = μ' x := fun x hx h => by rw [f3 _ h, hk _ hx]
        refine ih (i + 1) μ3 _ (by omega) (by rw [hk3 1 (by omega) (by omega)]; exact h0) ?_ e3 (fun m hm => ?_) (fun m hm => ?_) (fun m hm => ?_)
        · rw [hk3 2 (by omega) (by omega)]
          exact h2
        · by_cases hm2 : m = i
          · rw [hm2, am_fu_s]
          · rw [am_fu_n hm2]
            exact hf m (by omega)
        · obtain ⟨q1, q2, q3, q4⟩ := hB m hm
          exact ⟨by rw [hk3 _ (by omega) (by omega)]; exact q1, by rw [hk3 _ (by omega) (by omega)]; exact q2, by rw [hk3 _ (by omega) (by omega)]; exact q3, by rw [hk3 _ (by omega) (by omega)]; exact q4⟩
        · by_cases hm2 : m = i
          · rw [hm2]
            obtain ⟨q1, q2, q3, q4, q5⟩ := hS2
            exact ⟨by rw [f3 _ (by omega)]; exact q1, by rw [f3 _ (by omega)]; exact q2, by rw [f3 _ (by omega)]; exact q3, by rw [f3 _ (by omega)]; exact q4, by rw [f3 _ (by omega)]; exact q5⟩
          · obtain ⟨q1, q2, q3, q4, q5⟩ := hS m (by omega)
            exact ⟨by rw [hk3 _ (by omega) (by omega)]; exact q1, by rw [hk3 _ (by omega) (by omega)]; exact q2, by rw [hk3 _ (by omega) (by omega)]; exact q3, by rw [hk3 _ (by omega) (by omega)]; exact q4, by rw [hk3 _ (by omega) (by omega)]; exact q5⟩
  have loop1 : ∀ (r i : Nat) (μ' : Nat → Option am_C) (f : Nat → Option Nat), i + r = 3 → μ' 1 = some (.inl (0, [.inr (some 2), .inr none, .inr none, .inr none, .inr none, .inl 0])) → μ' 2 = some (.inr (.inr (2, 3, f))) → (∀ m, m < i → f m = some (3 + 4 * m)) → (∀ m, m < i → bxA μ' (3 + 4 * m) (fun _ => (0, 0, 0)) 0 1 1) → am_Ex mv_P (d + 2) (am_at kV_init) (14, [some (.inr (some 1)), some (.inl (i : Int))], [], 3 + 4 * i, ss + 3 + 42 * i, μ') Q := by
    intro r
    induction r with
    | zero =>
      intro i μ' f hi h0 h2 hf hB
      have ei : i = 3 := by omega
      subst ei
      refine x_iload rfl rfl ?_
      refine x_const rfl ?_
      refine x_icmp_ge rfl (fun hc => ?_) (fun hc => ?_)
      · refine x_aload rfl rfl ?_
        refine x_const rfl ?_
        refine x_anewaG (N := 4) rfl rfl (by decide) (fun μ1 e1 f1 => ?_)
        refine x_putG rfl (show μ1 1 = _ by rw [f1 1 (by omega)]; exact h0) (Nat.le_of_ble_eq_true rfl) rfl (fun μ2 h3 f3 => ?_)
        refine x_const rfl ?_
        refine x_istore rfl (Nat.le_of_ble_eq_true rfl) ?_
        have hk : ∀ x, x ≠ 1 → x ≠ 15 → μ2 x = μ' x := fun x h1 h2 => by rw [f3 _ h1, f1 _ h2]
        refine loop2 4 0 μ2 _ rfl h3 ⟨f, by rw [hk 2 (by omega) (by omega)]; exact h2, hf⟩ (by rw [f3 15 (by omega)]; exact e1) (fun m hm => absurd hm (Nat.not_lt_zero _)) (fun m hm => ?_) (fun m hm => absurd hm (Nat.not_lt_zero _))
        obtain ⟨q1, q2, q3, q4⟩ := hB m hm
        exact ⟨by rw [hk _ (by omega) (by omega)]; exact q1, by rw [hk _ (by omega) (by omega)]; exact q2, by rw [hk _ (by omega) (by omega)]; exact q3, by rw [hk _ (by omega) (by omega)]; exact q4⟩
      · exact absurd hc (by decide)
    | succ r ih =>
      intro i μ' f hi h0 h2 hf hB
      refine x_iload rfl rfl ?_
      refine x_const rfl ?_
      refine x_icmp_ge rfl (fun hc => ?_) (fun hc => ?_)
      · exact absurd hc (by omega)
      · refine x_aload rfl rfl ?_
        refine x_get rfl (by assumption) rfl ?_
        refine x_iload rfl rfl ?_
        refine x_newG rfl (fun μ1 e1 f1 => ?_)
        refine x_dup rfl ?_
        refine x_callI0 rfl (Nat.le_of_ble_eq_true rfl) ?_
        refine c_B_init e1 (fun μ2 hS2 f2 => ?_)
        have hk : ∀ x, x < 3 + 4 * i → μ2 x = μ' x := fun x hx => by rw [f2 _ (by omega), f1 _ (by omega)]
        refine x_aastN (j := i) rfl (show μ2 2 = _ by rw [hk 2 (by omega)]; exact h2) hS2.1 rfl (by omega) (fun μ3 e3 f3 => ?_)
        refine x_iinc rfl rfl ⟨by omega, by omega⟩ ?_
        refine x_goto rfl ?_
        have hk3 : ∀ x, x < 3 + 4 * i → x ≠ 2 → μ3 x = μ' x := fun x hx h => by rw [f3 _ h, hk _ hx]
        refine ih (i + 1) μ3 _ (by omega) (by rw [hk3 1 (by omega) (by omega)]; exact h0) e3 (fun m hm => ?_) (fun m hm => ?_)
        · by_cases hm2 : m = i
          · rw [hm2, am_fu_s]
          · rw [am_fu_n hm2]
            exact hf m (by omega)
        · by_cases hm2 : m = i
          · rw [hm2]
            obtain ⟨q1, q2, q3, q4⟩ := hS2
            exact ⟨by rw [f3 _ (by omega)]; exact q1, by rw [f3 _ (by omega)]; exact q2, by rw [f3 _ (by omega)]; exact q3, by rw [f3 _ (by omega)]; exact q4⟩
          · obtain ⟨q1, q2, q3, q4⟩ := hB m (by omega)
            exact ⟨by rw [hk3 _ (by omega) (by omega)]; exact q1, by rw [hk3 _ (by omega) (by omega)]; exact q2, by rw [hk3 _ (by omega) (by omega)]; exact q3, by rw [hk3 _ (by omega) (by omega)]; exact q4⟩
  refine am_wp pV_init (Nat.le_of_ble_eq_true rfl) ?_
  refine x_obj rfl rfl rfl rfl (Nat.le_of_ble_eq_true rfl) ?_
  refine x_aload rfl rfl ?_
  refine x_const rfl ?_
  refine x_anewaG (N := 3) rfl rfl (by decide) (fun μ1 e1 f1 => ?_)
  refine x_putG rfl (show μ1 1 = _ by rw [f1 1 (by omega)]; exact hm) (Nat.le_of_ble_eq_true rfl) rfl (fun μ2 h3 f3 => ?_)
  refine x_const rfl ?_
  refine x_istore rfl (Nat.le_of_ble_eq_true rfl) ?_
  exact loop1 3 0 μ2 _ rfl h3 (by rw [f3 2 (by omega)]; exact e1) (fun m hm => absurd hm (Nat.not_lt_zero _)) (fun m hm => absurd hm (Nat.not_lt_zero _))
end In2
