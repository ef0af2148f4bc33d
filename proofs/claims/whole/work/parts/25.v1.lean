/-! the class whole: cells 1 .. 49 -/
abbrev mv_S : Type := Int × Int × Int × List mv_V × List mv_V
def ctP (μ : Nat → Option am_C) (tk : List mv_Q) : Prop := ∃ K F Z, ctA μ 42 K F Z tk.length ∧ tk.length ≤ 14 ∧ ∀ k, k < tk.length → K k = mg tk k
def htP (μ : Nat → Option am_C) (fd : List Int) : Prop := ∃ f, μ 49 = some (.inr (.inl (0, 24, f))) ∧ fd.length ≤ 24 ∧ ∀ k, k < fd.length → f k = fd.getD k 0
def seP (μ : Nat → Option am_C) (s : Nat) (x : mv_S) : Prop := se μ (16 + 5 * s) x.2.2.2.1 x.2.2.2.2 x.1 x.2.1 x.2.2.1
def vaP (μ : Nat → Option am_C) : Prop := (∃ f, μ 2 = some (.inr (.inr (2, 3, f))) ∧ ∀ m, m < 3 → f m = some (3 + 4 * m)) ∧ ∃ f, μ 15 = some (.inr (.inr (3, 4, f))) ∧ ∀ s, s < 4 → f s = some (16 + 5 * s)
def voP (μ : Nat → Option am_C) (n : Nat) : Prop := μ 1 = some (.inl (0, [.inr (some 2), .inr (some 15), .inr (some 36), .inr (some 42), .inr (some 49), .inl n]))
def VX (μ : Nat → Option am_C) (B : Nat → mv_B) (vl : Nat → Int) (ses : Nat → mv_S) (E : Nat → mv_H) (op du : Nat) (tk : List mv_Q) (fd : List Int) : Prop :=
  voP μ fd.length ∧ vaP μ ∧ (∀ m, m < 3 → bx μ (3 + 4 * m) (B m) (vl m)) ∧ (∀ s, s < 4 → seP μ s (ses s)) ∧ jr μ 36 E op du ∧ ctP μ tk ∧ htP μ fd
section V1
variable {μ μ' : Nat → Option am_C} {B : Nat → mv_B} {vl : Nat → Int} {ses : Nat → mv_S} {E : Nat → mv_H} {op du : Nat} {tk : List mv_Q} {fd : List Int}
theorem vaP.fr {lo hi : Nat} (h : vaP μ) (hf : fr μ μ' lo hi) (ho : (2 < lo ∨ hi ≤ 2) ∧ (15 < lo ∨ hi ≤ 15)) : vaP μ' := by
  obtain ⟨⟨f, h1, h2⟩, g, h3, h4⟩ := h
  exact ⟨⟨f, by rw [hf 2 (by omega)]; exact h1, h2⟩, g, by rw [hf 15 (by omega)]; exact h3, h4⟩
theorem ctP.fr {lo hi : Nat} (h : ctP μ tk) (hf : fr μ μ' lo hi) (ho : 49 ≤ lo ∨ hi ≤ 42) : ctP μ' tk := by
  obtain ⟨K, F, Z, h1, h2⟩ := h
  exact ⟨K, F, Z, h1.fr hf (by omega), h2⟩
theorem htP.fr {lo hi : Nat} (h : htP μ fd) (hf : fr μ μ' lo hi) (ho : 49 < lo ∨ hi ≤ 49) : htP μ' fd := by
  obtain ⟨f, h1, h2⟩ := h
  exact ⟨f, by rw [hf 49 (by omega)]; exact h1, h2⟩
theorem VX.box {m : Nat} {b : mv_B} {z : Int} (h : VX μ B vl ses E op du tk fd) (hm : m < 3) (hb : bx μ' (3 + 4 * m) b z) (hf : fr μ μ' (3 + 4 * m) (3 + 4 * m + 4)) : VX μ' (am_fu B m b) (am_fu vl m z) ses E op du tk fd := by
  obtain ⟨h1, h2, h3, h4, h5, h6, h7⟩ := h
  refine ⟨by unfold voP; rw [hf 1 (by omega)]; exact h1, h2.fr hf (by omega), fun j hj => ?_, fun s hs => (h4 s hs).fr hf (by omega), h5.fr hf (by omega), h6.fr hf (by omega), h7.fr hf (by omega)⟩
  by_cases hjm : j = m
  · rw [hjm, am_fu_s, am_fu_s]
    exact hb
  · rw [am_fu_n hjm, am_fu_n hjm]
    exact (h3 j hj).fr hf (by omega)
theorem VX.sess {s : Nat} {x : mv_S} (h : VX μ B vl ses E op du tk fd) (hs : s < 4) (hx : seP μ' s x) (hf : fr μ μ' (16 + 5 * s) (16 + 5 * s + 5)) : VX μ' B vl (am_fu ses s x) E op du tk fd := by
  obtain ⟨h1, h2, h3, h4, h5, h6, h7⟩ := h
  refine ⟨by unfold voP; rw [hf 1 (by omega)]; exact h1, h2.fr hf (by omega), fun j hj => (h3 j hj).fr hf (by omega), fun j hj => ?_, h5.fr hf (by omega), h6.fr hf (by omega), h7.fr hf (by omega)⟩
  by_cases hjm : j = s
  · rw [hjm, am_fu_s]
    exact hx
  · rw [am_fu_n hjm]
    exact (h4 j hj).fr hf (by omega)
theorem VX.jrn {E' : Nat → mv_H} {op' du' : Nat} (h : VX μ B vl ses E op du tk fd) (hj : jr μ' 36 E' op' du') (hf : fr μ μ' 36 (36 + 6)) : VX μ' B vl ses E' op' du' tk fd := by
  obtain ⟨h1, h2, h3, h4, h5, h6, h7⟩ := h
  exact ⟨by unfold voP; rw [hf 1 (by omega)]; exact h1, h2.fr hf (by omega), fun j hj => (h3 j hj).fr hf (by omega), fun j hj => (h4 j hj).fr hf (by omega), hj, h6.fr hf (by omega), h7.fr hf (by omega)⟩
theorem VX.crt {tk' : List mv_Q} (h : VX μ B vl ses E op du tk fd) (hj : ctP μ' tk') (hf : fr μ μ' 42 (42 + 7)) : VX μ' B vl ses E op du tk' fd := by
  obtain ⟨h1, h2, h3, h4, h5, h6, h7⟩ := h
  exact ⟨by unfold voP; rw [hf 1 (by omega)]; exact h1, h2.fr hf (by omega), fun j hj => (h3 j hj).fr hf (by omega), fun j hj => (h4 j hj).fr hf (by omega), h5.fr hf (by omega), hj, h7.fr hf (by omega)⟩
end V1
def b01 (c : Prop) [Decidable c] : Int := if c then 1 else 0
section V2
variable {d nn ss : Nat} {μ : Nat → Option am_C} {Q : Option am_V → am_M → Prop} {M : am_M}
theorem c_V_isMailbox {x : Int} (h1 : (0 ≤ x ∧ x < 3) → Q (some (.inl 1)) M) (h0 : ¬ (0 ≤ x ∧ x < 3) → Q (some (.inl 0)) M) : am_Wp mv_P (d + 1) jV_isMailbox [.inl x] M Q := by
  refine am_wp pV_isMailbox (Nat.le_of_ble_eq_true rfl) ?_
  refine x_iload rfl rfl ?_
  refine x_if_lt rfl (fun hc => ?_) (fun hc => ?_)
  · refine x_const rfl ?_
    refine x_zret rfl (by first | exact Or.inl rfl | exact Or.inr rfl | assumption | omega) ?_
    exact h0 (by omega)
  · refine x_iload rfl rfl ?_
    refine x_const rfl ?_
    refine x_icmp_ge rfl (fun hc => ?_) (fun hc => ?_)
    · refine x_const rfl ?_
      refine x_zret rfl (by first | exact Or.inl rfl | exact Or.inr rfl | assumption | omega) ?_
      exact h0 (by omega)
    · refine x_const rfl ?_
      refine x_goto rfl ?_
      refine x_zret rfl (by first | exact Or.inl rfl | exact Or.inr rfl | assumption | omega) ?_
      exact h1 (by omega)
theorem c_V_isSession {x : Int} (h1 : (0 ≤ x ∧ x < 4) → Q (some (.inl 1)) M) (h0 : ¬ (0 ≤ x ∧ x < 4) → Q (some (.inl 0)) M) : am_Wp mv_P (d + 1) jV_isSession [.inl x] M Q := by
  refine am_wp pV_isSession (Nat.le_of_ble_eq_true rfl) ?_
  refine x_iload rfl rfl ?_
  refine x_if_lt rfl (fun hc => ?_) (fun hc => ?_)
  · refine x_const rfl ?_
    refine x_zret rfl (by first | exact Or.inl rfl | exact Or.inr rfl | assumption | omega) ?_
    exact h0 (by omega)
  · refine x_iload rfl rfl ?_
    refine x_const rfl ?_
    refine x_icmp_ge rfl (fun hc => ?_) (fun hc => ?_)
    · refine x_const rfl ?_
      refine x_zret rfl (by first | exact Or.inl rfl | exact Or.inr rfl | assumption | omega) ?_
      exact h0 (by omega)
    · refine x_const rfl ?_
      refine x_goto rfl ?_
      refine x_zret rfl (by first | exact Or.inl rfl | exact Or.inr rfl | assumption | omega) ?_
      exact h1 (by omega)
theorem c_V_areFlags {x : Int} (h1 : (0 ≤ x ∧ x ≤ 31) → Q (some (.inl 1)) M) (h0 : ¬ (0 ≤ x ∧ x ≤ 31) → Q (some (.inl 0)) M) : am_Wp mv_P (d + 1) jV_areFlags [.inl x] M Q := by
  refine am_wp pV_areFlags (Nat.le_of_ble_eq_true rfl) ?_
  refine x_iload rfl rfl ?_
  refine x_if_lt rfl (fun hc => ?_) (fun hc => ?_)
  · refine x_const rfl ?_
    refine x_zret rfl (by first | exact Or.inl rfl | exact Or.inr rfl | assumption | omega) ?_
    exact h0 (by omega)
  · refine x_iload rfl rfl ?_
    refine x_const rfl ?_
    refine x_icmp_gt rfl (fun hc => ?_) (fun hc => ?_)
    · refine x_const rfl ?_
      refine x_zret rfl (by first | exact Or.inl rfl | exact Or.inr rfl | assumption | omega) ?_
      exact h0 (by omega)
    · refine x_const rfl ?_
      refine x_goto rfl ?_
      refine x_zret rfl (by first | exact Or.inl rfl | exact Or.inr rfl | assumption | omega) ?_
      exact h1 (by omega)
def cfl (f0 mode f : Int) : Int := if mode = 1 then am_or f0 f else if mode = 2 then am_and f0 (am_xor f (-1)) else f
theorem c_V_changedFlags {f0 mode f : Int} (hQ : Q (some (.inl (cfl f0 mode f))) M) : am_Wp mv_P (d + 1) jV_changedFlags [.inl f0, .inl mode, .inl f] M Q := by
  refine am_wp pV_changedFlags (Nat.le_of_ble_eq_true rfl) ?_
  unfold cfl at hQ
  refine x_iload rfl rfl ?_
  refine x_lsw rfl ?_
  by_cases e1 : mode = 1
  · rw [if_pos e1] at hQ
    rw [e1]
    show am_Ex mv_P d (am_at kV_changedFlags) (28, _, _, _) Q
    refine x_iload rfl rfl ?_
    refine x_iload rfl rfl ?_
    refine x_ior rfl ?_
    refine x_iret rfl ?_
    exact hQ
  · rw [if_neg e1] at hQ
    by_cases e2 : mode = 2
    · rw [if_pos e2] at hQ
      rw [e2]
      show am_Ex mv_P d (am_at kV_changedFlags) (32, _, _, _) Q
      refine x_iload rfl rfl ?_
      refine x_iload rfl rfl ?_
      refine x_const rfl ?_
      refine x_ixor rfl ?_
      refine x_iand rfl ?_
      refine x_iret rfl ?_
      exact hQ
    · rw [if_neg e2] at hQ
      have e : am_lk [(1, 28), (2, 32)] 38 mode = 38 := by
        unfold am_lk
        rw [if_neg e1]
        unfold am_lk
        rw [if_neg e2]
        rfl
      rw [e]
      refine x_iload rfl rfl ?_
      refine x_iret rfl ?_
      exact hQ
end V2
/-- a number is a session's with a mailbox -/
abbrev hasM (ses : Nat → mv_S) (x : Int) : Prop := (0 ≤ x ∧ x < 4) ∧ ¬ (ses x.toNat).1 = -1
abbrev inV (ses : Nat → mv_S) (x y : Int) : Prop := hasM ses x ∧ 1 ≤ y ∧ y ≤ (ses x.toNat).2.2.2.1.length
section V3
variable {d nn ss : Nat} {μ : Nat → Option am_C} {Q : Option am_V → am_M → Prop} {B : Nat → mv_B} {vl : Nat → Int} {ses : Nat → mv_S} {E : Nat → mv_H} {op du : Nat} {tk : List mv_Q} {fd : List Int}
theorem c_V_hasMailbox {x : Int} (h : VX μ B vl ses E op du tk fd) (h1 : hasM ses x → Q (some (.inl 1)) (nn, ss, μ)) (h0 : ¬ hasM ses x → Q (some (.inl 0)) (nn, ss, μ)) : am_Wp mv_P (d + 2) jV_hasMailbox [.inr (some 1), .inl x] (nn, ss, μ) Q := by
  obtain ⟨g1, ⟨-, f, g2, g3⟩, -, g4, -⟩ := h
  unfold voP at g1
  refine am_wp pV_hasMailbox (Nat.le_of_ble_eq_true rfl) ?_
  refine x_iload rfl rfl ?_
  refine x_callS1 rfl (Nat.le_of_ble_eq_true rfl) ?_
  refine c_V_isSession (fun hs => ?_) (fun hs => ?_)
  · refine x_if_eq rfl (fun hc => ?_) (fun hc => ?_)
    · exact absurd hc (by decide)
    · refine x_aload rfl rfl ?_
      refine x_get rfl (by assumption) rfl ?_
      refine x_iload rfl rfl ?_
      refine x_aaldN (j := x.toNat) rfl (by assumption) (by omega) (by omega) ?_
      rw [g3 _ (by omega)]
      obtain ⟨V, T, k1, -⟩ := g4 x.toNat (by omega)
      refine x_callV0 rfl k1.1 (Nat.le_of_ble_eq_true rfl) ?_
      refine c_S_mailboxNumber k1 ?_
      refine x_const rfl ?_
      refine x_icmp_eq rfl (fun hc => ?_) (fun hc => ?_)
      · refine x_const rfl ?_
        refine x_zret rfl (by first | exact Or.inl rfl | exact Or.inr rfl | assumption | omega) ?_
        exact h0 (fun q => q.2 hc)
      · refine x_const rfl ?_
        refine x_goto rfl ?_
        refine x_zret rfl (by first | exact Or.inl rfl | exact Or.inr rfl | assumption | omega) ?_
        exact h1 ⟨hs, hc⟩
  · refine x_if_eq rfl (fun hc => ?_) (fun hc => ?_)
    · refine x_const rfl ?_
      refine x_zret rfl (by first | exact Or.inl rfl | exact Or.inr rfl | assumption | omega) ?_
      exact h0 (fun q => hs q.1)
    · exact absurd rfl hc
theorem c_V_isInView {x y : Int} (h : VX μ B vl ses E op du tk fd) (h1 : inV ses x y → Q (some (.inl 1)) (nn, ss, μ)) (h0 : ¬ inV ses x y → Q (some (.inl 0)) (nn, ss, μ)) : am_Wp mv_P (d + 3) jV_isInView [.inr (some 1), .inl x, .inl y] (nn, ss, μ) Q := by
  have h' := h
  obtain ⟨g1, ⟨-, f, g2, g3⟩, -, g4, -⟩ := h
  unfold voP at g1
  refine am_wp pV_isInView (Nat.le_of_ble_eq_true rfl) ?_
  refine x_aload rfl rfl ?_
  refine x_iload rfl rfl ?_
  refine x_callV1 rfl (by assumption) (Nat.le_of_ble_eq_true rfl) ?_
  refine c_V_hasMailbox h' (fun hs => ?_) (fun hs => ?_)
  · have hs1 := hs.1
    refine x_if_eq rfl (fun hc => ?_) (fun hc => ?_)
    · exact absurd hc (by decide)
    · refine x_iload rfl rfl ?_
      refine x_const rfl ?_
      refine x_icmp_lt rfl (fun hc => ?_) (fun hc => ?_)
      · refine x_const rfl ?_
        refine x_zret rfl (by first | exact Or.inl rfl | exact Or.inr rfl | assumption | omega) ?_
        exact h0 (fun q => by have := q.2.1; omega)
      · refine x_iload rfl rfl ?_
        refine x_aload rfl rfl ?_
        refine x_get rfl (by assumption) rfl ?_
        refine x_iload rfl rfl ?_
        refine x_aaldN (j := x.toNat) rfl (by assumption) (by omega) (by omega) ?_
        rw [g3 _ (by omega)]
        obtain ⟨V, T, k1, -⟩ := g4 x.toNat (by omega)
        refine x_callV0 rfl k1.1 (Nat.le_of_ble_eq_true rfl) ?_
        refine c_S_viewLength k1 ?_
        refine x_icmp_gt rfl (fun hc => ?_) (fun hc => ?_)
        · refine x_const rfl ?_
          refine x_zret rfl (by first | exact Or.inl rfl | exact Or.inr rfl | assumption | omega) ?_
          exact h0 (fun q => by have := q.2.2; omega)
        · refine x_const rfl ?_
          refine x_goto rfl ?_
          refine x_zret rfl (by first | exact Or.inl rfl | exact Or.inr rfl | assumption | omega) ?_
          exact h1 ⟨hs, by omega, by omega⟩
  · refine x_if_eq rfl (fun hc => ?_) (fun hc => ?_)
    · refine x_const rfl ?_
      refine x_zret rfl (by first | exact Or.inl rfl | exact Or.inr rfl | assumption | omega) ?_
      exact h0 (fun q => hs q.1)
    · exact absurd rfl hc
theorem c_V_mailboxOf {s m : Nat} (h : VX μ B vl ses E op du tk fd) (hs : s < 4) (hm : (ses s).1 = (m : Int)) (hm3 : m < 3) (hQ : Q (some (.inr (some (3 + 4 * m)))) (nn, ss, μ)) : am_Wp mv_P (d + 2) jV_mailboxOf [.inr (some 1), .inl s] (nn, ss, μ) Q := by
  obtain ⟨g1, ⟨⟨f0, g5, g6⟩, f, g2, g3⟩, -, g4, -⟩ := h
  unfold voP at g1
  refine am_wp pV_mailboxOf (Nat.le_of_ble_eq_true rfl) ?_
  refine x_aload rfl rfl ?_
  refine x_get rfl (by assumption) rfl ?_
  refine x_aload rfl rfl ?_
  refine x_get rfl (by assumption) rfl ?_
  refine x_iload rfl rfl ?_
  refine x_aaldN (j := s) rfl (by assumption) (by omega) (by omega) ?_
  rw [g3 _ hs]
  obtain ⟨V, T, k1, -⟩ := g4 s hs
  refine x_callV0 rfl k1.1 (Nat.le_of_ble_eq_true rfl) ?_
  refine c_S_mailboxNumber k1 ?_
  rw [hm]
  refine x_aaldN (j := m) rfl (by assumption) (by omega) (by omega) ?_
  rw [g6 _ hm3]
  refine x_aret rfl ?_
  exact hQ
/-- a session updated -/
def upS (x : mv_S) (b : mv_B) (rm : Int) : mv_S := (x.1, x.2.1, upH b.1 x.2.2.2.1 x.2.2.1 rm, upV b.1 x.2.2.2.1 x.2.2.1 rm, upN b.1 x.2.2.2.1 x.2.2.1 rm)
theorem c_V_update {s m : Nat} {rm : Int} (h : VX μ B vl ses E op du tk fd) (hs : s < 4) (hm : (ses s).1 = (m : Int)) (hm3 : m < 3) (hQ : ∀ μ', VX μ' B vl (am_fu ses s (upS (ses s) (B m) rm)) E op du tk fd → fr μ μ' 1 50 → Q none (nn, ss, μ')) : am_Wp mv_P (d + 4) jV_update [.inr (some 1), .inl s, .inl rm] (nn, ss, μ) Q := by
  have h' := h
  obtain ⟨g1, ⟨⟨f0, g5, g6⟩, f, g2, g3⟩, g7, g4, -⟩ := h
  unfold voP at g1
  refine am_wp pV_update (Nat.le_of_ble_eq_true rfl) ?_
  refine x_aload rfl rfl ?_
  refine x_get rfl (by assumption) rfl ?_
  refine x_iload rfl rfl ?_
  refine x_aaldN (j := s) rfl (by assumption) (by omega) (by omega) ?_
  rw [g3 _ hs]
  refine x_aload rfl rfl ?_
  refine x_iload rfl rfl ?_
  refine x_callV1 rfl (by assumption) (Nat.le_of_ble_eq_true rfl) ?_
  refine c_V_mailboxOf h' hs hm hm3 ?_
  have k0 := g4 s hs
  obtain ⟨fs, k1⟩ := k0.ob
  refine x_iload rfl rfl ?_
  refine x_callV2 rfl (by assumption) (Nat.le_of_ble_eq_true rfl) ?_
  refine c_S_update k0 (g7 m hm3) (by omega) (fun μ' hs' hf => ?_)
  refine x_vret rfl ?_
  exact hQ μ' (h'.sess hs hs' hf) (hf.wd (by omega) (by omega))
theorem c_V_sessionsWith {x : Int} (h : VX μ B vl ses E op du tk fd) (hQ : Q (some (.inl ((if (ses 0).1 = x then 1 else 0) + (if (ses 1).1 = x then 1 else 0) + (if (ses 2).1 = x then 1 else 0) + (if (ses 3).1 = x then 1 else 0)))) (nn, ss, μ)) : am_Wp mv_P (d + 2) jV_sessionsWith [.inr (some 1), .inl x] (nn, ss, μ) Q := by
  obtain ⟨g1, ⟨-, f, g2, g3⟩, -, g4, -⟩ := h
  unfold voP at g1
  have step : ∀ (k : Nat) (c : Int), k < 4 → 0 ≤ c → c ≤ 4 → am_Ex mv_P (d + 1) (am_at kV_sessionsWith) (4, [some (.inr (some 1)), some (.inl x), some (.inl (c + (if (ses k).1 = x then 1 else 0))), some (.inl ((k : Int) + 1))], [], nn, ss, μ) Q → am_Ex mv_P (d + 1) (am_at kV_sessionsWith) (4, [some (.inr (some 1)), some (.inl x), some (.inl c), some (.inl (k : Int))], [], nn, ss, μ) Q := by
    intro k c hk hc0 hc4 hgo
    obtain ⟨V, T, k1, -⟩ := g4 k hk
    refine x_iload rfl rfl ?_
    refine x_const rfl ?_
    refine x_icmp_ge rfl (fun hc => ?_) (fun hc => ?_)
    · exact absurd hc (by omega)
    · refine x_aload rfl rfl ?_
      refine x_get rfl (by assumption) rfl ?_
      refine x_iload rfl rfl ?_
      refine x_aaldN (j := k) rfl (by assumption) (by omega) (by omega) ?_
      rw [g3 _ hk]
      refine x_callV0 rfl k1.1 (Nat.le_of_ble_eq_true rfl) ?_
      refine c_S_mailboxNumber k1 ?_
      refine x_iload rfl rfl ?_
      refine x_icmp_ne rfl (fun hc => ?_) (fun hc => ?_)
      · refine x_iinc rfl rfl ⟨by omega, by omega⟩ ?_
        refine x_goto rfl ?_
        rw [if_neg hc, Int.add_zero] at hgo
        exact hgo
      · refine x_iinc rfl rfl ⟨by omega, by omega⟩ ?_
        refine x_iinc rfl rfl ⟨by omega, by omega⟩ ?_
        refine x_goto rfl ?_
        rw [if_pos (Classical.not_not.mp hc)] at hgo
        exact hgo
  refine am_wp pV_sessionsWith (Nat.le_of_ble_eq_true rfl) ?_
  refine x_const rfl ?_
  refine x_istore rfl (Nat.le_of_ble_eq_true rfl) ?_
  refine x_const rfl ?_
  refine x_istore rfl (Nat.le_of_ble_eq_true rfl) ?_
  have b0 : 0 ≤ (if (ses 0).1 = x then (1 : Int) else 0) ∧ (if (ses 0).1 = x then (1 : Int) else 0) ≤ 1 := by split <;> omega
  have b1 : 0 ≤ (if (ses 1).1 = x then (1 : Int) else 0) ∧ (if (ses 1).1 = x then (1 : Int) else 0) ≤ 1 := by split <;> omega
  have b2 : 0 ≤ (if (ses 2).1 = x then (1 : Int) else 0) ∧ (if (ses 2).1 = x then (1 : Int) else 0) ≤ 1 := by split <;> omega
  refine step 0 0 (by omega) (by omega) (by omega) ?_
  rw [Int.zero_add]
  refine step 1 _ (by omega) (by omega) (by omega) ?_
  refine step 2 _ (by omega) (by omega) (by omega) ?_
  refine step 3 _ (by omega) (by omega) (by omega) ?_
  refine x_iload rfl rfl ?_
  refine x_const rfl ?_
  refine x_icmp_ge rfl (fun hc => ?_) (fun hc => ?_)
  · refine x_iload rfl rfl ?_
    refine x_iret rfl ?_
    exact hQ
  · exact absurd hc (by decide)
end V3
