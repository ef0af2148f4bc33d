/-! a mailbox: its cells a .. a+3, its methods -/
abbrev mv_Q : Type := Int × Int × Int
def mg (l : List mv_Q) (k : Nat) : mv_Q := l.getD k (0, 0, 0)
def bxA (μ : Nat → Option am_C) (a : Nat) (U F S : Nat → Int) (n : Nat) (nx vl : Int) : Prop :=
  μ a = some (.inl (1, [.inr (some (a + 1)), .inr (some (a + 2)), .inr (some (a + 3)), .inl n, .inl nx, .inl vl])) ∧ μ (a + 1) = some (.inr (.inl (0, 12, U))) ∧ μ (a + 2) = some (.inr (.inl (0, 12, F))) ∧ μ (a + 3) = some (.inr (.inl (0, 12, S)))
section Box
variable {d nn ss a n : Nat} {μ : Nat → Option am_C} {Q : Option am_V → am_M → Prop} {U F S : Nat → Int} {nx vl : Int}
theorem c_B_messageCount (h : bxA μ a U F S n nx vl) (hQ : Q (some (.inl n)) (nn, ss, μ)) : am_Wp mv_P (d + 1) jB_messageCount [.inr (some a)] (nn, ss, μ) Q := by
  obtain ⟨h0, h1, h2, h3⟩ := h
  refine am_wp pB_messageCount (Nat.le_of_ble_eq_true rfl) ?_
  refine x_aload rfl rfl ?_
  refine x_get rfl (by assumption) rfl ?_
  refine x_iret rfl ?_
  exact hQ
theorem c_B_nextUid (h : bxA μ a U F S n nx vl) (hQ : Q (some (.inl nx)) (nn, ss, μ)) : am_Wp mv_P (d + 1) jB_nextUid [.inr (some a)] (nn, ss, μ) Q := by
  obtain ⟨h0, h1, h2, h3⟩ := h
  refine am_wp pB_nextUid (Nat.le_of_ble_eq_true rfl) ?_
  refine x_aload rfl rfl ?_
  refine x_get rfl (by assumption) rfl ?_
  refine x_iret rfl ?_
  exact hQ
theorem c_B_validity (h : bxA μ a U F S n nx vl) (hQ : Q (some (.inl vl)) (nn, ss, μ)) : am_Wp mv_P (d + 1) jB_validity [.inr (some a)] (nn, ss, μ) Q := by
  obtain ⟨h0, h1, h2, h3⟩ := h
  refine am_wp pB_validity (Nat.le_of_ble_eq_true rfl) ?_
  refine x_aload rfl rfl ?_
  refine x_get rfl (by assumption) rfl ?_
  refine x_iret rfl ?_
  exact hQ
theorem c_B_isFull (h : bxA μ a U F S n nx vl) (hQ : Q (some (.inl (if 12 ≤ n then 1 else 0))) (nn, ss, μ)) : am_Wp mv_P (d + 1) jB_isFull [.inr (some a)] (nn, ss, μ) Q := by
  obtain ⟨h0, h1, h2, h3⟩ := h
  refine am_wp pB_isFull (Nat.le_of_ble_eq_true rfl) ?_
  refine x_aload rfl rfl ?_
  refine x_get rfl (by assumption) rfl ?_
  refine x_const rfl ?_
  refine x_icmp_lt rfl (fun hc => ?_) (fun hc => ?_)
  · refine x_const rfl ?_
    refine x_zret rfl (by first | exact Or.inl rfl | exact Or.inr rfl | assumption | omega) ?_
    rw [if_neg (by omega)] at hQ
    exact hQ
  · refine x_const rfl ?_
    refine x_goto rfl ?_
    refine x_zret rfl (by first | exact Or.inl rfl | exact Or.inr rfl | assumption | omega) ?_
    rw [if_pos (by omega)] at hQ
    exact hQ
theorem c_B_uidAt {k : Nat} (h : bxA μ a U F S n nx vl) (hk : k < 12) (hQ : Q (some (.inl (U k))) (nn, ss, μ)) : am_Wp mv_P (d + 1) jB_uidAt [.inr (some a), .inl k] (nn, ss, μ) Q := by
  obtain ⟨h0, h1, h2, h3⟩ := h
  refine am_wp pB_uidAt (Nat.le_of_ble_eq_true rfl) ?_
  refine x_aload rfl rfl ?_
  refine x_get rfl (by assumption) rfl ?_
  refine x_iload rfl rfl ?_
  refine x_ialdN (j := k) rfl (by assumption) (by omega) (by omega) ?_
  refine x_iret rfl ?_
  exact hQ
theorem c_B_flagsAt {k : Nat} (h : bxA μ a U F S n nx vl) (hk : k < 12) (hQ : Q (some (.inl (F k))) (nn, ss, μ)) : am_Wp mv_P (d + 1) jB_flagsAt [.inr (some a), .inl k] (nn, ss, μ) Q := by
  obtain ⟨h0, h1, h2, h3⟩ := h
  refine am_wp pB_flagsAt (Nat.le_of_ble_eq_true rfl) ?_
  refine x_aload rfl rfl ?_
  refine x_get rfl (by assumption) rfl ?_
  refine x_iload rfl rfl ?_
  refine x_ialdN (j := k) rfl (by assumption) (by omega) (by omega) ?_
  refine x_iret rfl ?_
  exact hQ
theorem c_B_sizeAt {k : Nat} (h : bxA μ a U F S n nx vl) (hk : k < 12) (hQ : Q (some (.inl (S k))) (nn, ss, μ)) : am_Wp mv_P (d + 1) jB_sizeAt [.inr (some a), .inl k] (nn, ss, μ) Q := by
  obtain ⟨h0, h1, h2, h3⟩ := h
  refine am_wp pB_sizeAt (Nat.le_of_ble_eq_true rfl) ?_
  refine x_aload rfl rfl ?_
  refine x_get rfl (by assumption) rfl ?_
  refine x_iload rfl rfl ?_
  refine x_ialdN (j := k) rfl (by assumption) (by omega) (by omega) ?_
  refine x_iret rfl ?_
  exact hQ
end Box
