/-! a mailbox: its cells a .. a+3, its methods -/
abbrev mv_Q : Type := Int × Int × Int
def mg (l : List mv_Q) (k : Nat) : mv_Q := l.getD k (0, 0, 0)
/-- nothing outside lo .. hi-1 changed -/
def fr (μ μ' : Nat → Option am_C) (lo hi : Nat) : Prop := ∀ x, (x < lo ∨ hi ≤ x) → μ' x = μ x
theorem fr.rf {μ : Nat → Option am_C} {lo hi : Nat} : fr μ μ lo hi := fun _ _ => rfl
theorem fr.tr {μ μ' μ2 : Nat → Option am_C} {lo hi : Nat} (h1 : fr μ μ' lo hi) (h2 : fr μ' μ2 lo hi) : fr μ μ2 lo hi := fun x hx => (h2 x hx).trans (h1 x hx)
theorem fr.wd {μ μ' : Nat → Option am_C} {lo hi lo' hi' : Nat} (h1 : fr μ μ' lo hi) (h2 : lo' ≤ lo) (h3 : hi ≤ hi') : fr μ μ' lo' hi' := fun x hx => h1 x (by omega)
theorem fr.one {μ μ' : Nat → Option am_C} {lo hi a : Nat} (h : ∀ x, x ≠ a → μ' x = μ x) (h1 : lo ≤ a) (h2 : a < hi) : fr μ μ' lo hi := fun x hx => h x (by omega)
def bxA (μ : Nat → Option am_C) (a : Nat) (W : Nat → mv_Q) (n : Nat) (nx vl : Int) : Prop :=
  μ a = some (.inl (1, [.inr (some (a + 1)), .inr (some (a + 2)), .inr (some (a + 3)), .inl n, .inl nx, .inl vl])) ∧ μ (a + 1) = some (.inr (.inl (0, 12, fun k => (W k).1))) ∧ μ (a + 2) = some (.inr (.inl (0, 12, fun k => (W k).2.1))) ∧ μ (a + 3) = some (.inr (.inl (0, 12, fun k => (W k).2.2)))
theorem bxA.fr {μ μ' : Nat → Option am_C} {a lo hi : Nat} {W : Nat → mv_Q} {n : Nat} {nx vl : Int} (h : bxA μ a W n nx vl) (hf : fr μ μ' lo hi) (ho : a + 4 ≤ lo ∨ hi ≤ a) : bxA μ' a W n nx vl := by
  obtain ⟨h0, h1, h2, h3⟩ := h
  exact ⟨by rw [hf a (by omega)]; exact h0, by rw [hf (a + 1) (by omega)]; exact h1, by rw [hf (a + 2) (by omega)]; exact h2, by rw [hf (a + 3) (by omega)]; exact h3⟩
section Box
variable {d nn ss a n : Nat} {μ : Nat → Option am_C} {Q : Option am_V → am_M → Prop} {W : Nat → mv_Q} {nx vl : Int}
theorem c_B_messageCount (h : bxA μ a W n nx vl) (hQ : Q (some (.inl n)) (nn, ss, μ)) : am_Wp mv_P (d + 1) jB_messageCount [.inr (some a)] (nn, ss, μ) Q := by
  obtain ⟨h0, h1, h2, h3⟩ := h
  refine am_wp pB_messageCount (Nat.le_of_ble_eq_true rfl) ?_
  refine x_aload rfl rfl ?_
  refine x_get rfl (by assumption) rfl ?_
  refine x_iret rfl ?_
  exact hQ
theorem c_B_nextUid (h : bxA μ a W n nx vl) (hQ : Q (some (.inl nx)) (nn, ss, μ)) : am_Wp mv_P (d + 1) jB_nextUid [.inr (some a)] (nn, ss, μ) Q := by
  obtain ⟨h0, h1, h2, h3⟩ := h
  refine am_wp pB_nextUid (Nat.le_of_ble_eq_true rfl) ?_
  refine x_aload rfl rfl ?_
  refine x_get rfl (by assumption) rfl ?_
  refine x_iret rfl ?_
  exact hQ
theorem c_B_validity (h : bxA μ a W n nx vl) (hQ : Q (some (.inl vl)) (nn, ss, μ)) : am_Wp mv_P (d + 1) jB_validity [.inr (some a)] (nn, ss, μ) Q := by
  obtain ⟨h0, h1, h2, h3⟩ := h
  refine am_wp pB_validity (Nat.le_of_ble_eq_true rfl) ?_
  refine x_aload rfl rfl ?_
  refine x_get rfl (by assumption) rfl ?_
  refine x_iret rfl ?_
  exact hQ
theorem c_B_isFull (h : bxA μ a W n nx vl) (hQ : Q (some (.inl (if 12 ≤ n then 1 else 0))) (nn, ss, μ)) : am_Wp mv_P (d + 1) jB_isFull [.inr (some a)] (nn, ss, μ) Q := by
  obtain ⟨h0, h1, h2, h3⟩ := h
  refine am_wp pB_isFull (Nat.le_of_ble_eq_true rfl) ?_
  refine x_aload rfl rfl ?_
  refine x_get rfl (by assumption) rfl ?_
  refine x_const rfl ?_
  refine x_icmp_lt rfl (fun hc => ?_) (fun hc => ?_)
  · refine x_const rfl ?_
    refine x_zret rfl (by first | exact Or.inl rfl | exact Or.inr rfl | assumption | omega) ?_
    rw [if_neg (by omega)] at hQ
    exact hQ
  · refine x_const rfl ?_
    refine x_goto rfl ?_
    refine x_zret rfl (by first | exact Or.inl rfl | exact Or.inr rfl | assumption | omega) ?_
    rw [if_pos (by omega)] at hQ
    exact hQ
theorem c_B_uidAt {k : Nat} (h : bxA μ a W n nx vl) (hk : k < 12) (hQ : Q (some (.inl (W k).1)) (nn, ss, μ)) : am_Wp mv_P (d + 1) jB_uidAt [.inr (some a), .inl k] (nn, ss, μ) Q := by
  obtain ⟨h0, h1, h2, h3⟩ := h
  refine am_wp pB_uidAt (Nat.le_of_ble_eq_true rfl) ?_
  refine x_aload rfl rfl ?_
  refine x_get rfl (by assumption) rfl ?_
  refine x_iload rfl rfl ?_
  refine x_ialdN (j := k) rfl (by assumption) (by omega) (by omega) ?_
  refine x_iret rfl ?_
  exact hQ
theorem c_B_flagsAt {k : Nat} (h : bxA μ a W n nx vl) (hk : k < 12) (hQ : Q (some (.inl (W k).2.1)) (nn, ss, μ)) : am_Wp mv_P (d + 1) jB_flagsAt [.inr (some a), .inl k] (nn, ss, μ) Q := by
  obtain ⟨h0, h1, h2, h3⟩ := h
  refine am_wp pB_flagsAt (Nat.le_of_ble_eq_true rfl) ?_
  refine x_aload rfl rfl ?_
  refine x_get rfl (by assumption) rfl ?_
  refine x_iload rfl rfl ?_
  refine x_ialdN (j := k) rfl (by assumption) (by omega) (by omega) ?_
  refine x_iret rfl ?_
  exact hQ
theorem c_B_sizeAt {k : Nat} (h : bxA μ a W n nx vl) (hk : k < 12) (hQ : Q (some (.inl (W k).2.2)) (nn, ss, μ)) : am_Wp mv_P (d + 1) jB_sizeAt [.inr (some a), .inl k] (nn, ss, μ) Q := by
  obtain ⟨h0, h1, h2, h3⟩ := h
  refine am_wp pB_sizeAt (Nat.le_of_ble_eq_true rfl) ?_
  refine x_aload rfl rfl ?_
  refine x_get rfl (by assumption) rfl ?_
  refine x_iload rfl rfl ?_
  refine x_ialdN (j := k) rfl (by assumption) (by omega) (by omega) ?_
  refine x_iret rfl ?_
  exact hQ
theorem c_B_growValidity (h : bxA μ a W n nx vl) (hv : 0 ≤ vl ∧ vl < 100000) (hQ : ∀ μ', bxA μ' a W n nx (vl + 1) → fr μ μ' a (a + 4) → Q none (nn, ss, μ')) : am_Wp mv_P (d + 1) jB_growValidity [.inr (some a)] (nn, ss, μ) Q := by
  obtain ⟨h0, h1, h2, h3⟩ := h
  refine am_wp pB_growValidity (Nat.le_of_ble_eq_true rfl) ?_
  refine x_aload rfl rfl ?_
  refine x_dup rfl ?_
  refine x_get rfl (by assumption) rfl ?_
  refine x_const rfl ?_
  refine x_iadd rfl ⟨by omega, by omega⟩ ?_
  refine x_putG rfl (by assumption) (Nat.le_of_ble_eq_true rfl) rfl ?_
  intro μ' hn ho
  refine x_vret rfl ?_
  exact hQ μ' ⟨hn, by rw [ho _ (by omega)]; exact h1, by rw [ho _ (by omega)]; exact h2, by rw [ho _ (by omega)]; exact h3⟩ (fr.one ho (by omega) (by omega))
theorem mv_fu1 (W : Nat → mv_Q) (t : Nat) (q : mv_Q) : am_fu (fun k => (W k).1) t q.1 = fun k => (am_fu W t q k).1 := by
  funext k
  by_cases h : k = t <;> simp [am_fu, h]
theorem mv_fu2 (W : Nat → mv_Q) (t : Nat) (q : mv_Q) : am_fu (fun k => (W k).2.1) t q.2.1 = fun k => (am_fu W t q k).2.1 := by
  funext k
  by_cases h : k = t <;> simp [am_fu, h]
theorem mv_fu3 (W : Nat → mv_Q) (t : Nat) (q : mv_Q) : am_fu (fun k => (W k).2.2) t q.2.2 = fun k => (am_fu W t q k).2.2 := by
  funext k
  by_cases h : k = t <;> simp [am_fu, h]
theorem c_B_setFlagsAt {k : Nat} {z : Int} (h : bxA μ a W n nx vl) (hk : k < 12) (hQ : ∀ μ', bxA μ' a (am_fu W k ((W k).1, z, (W k).2.2)) n nx vl → fr μ μ' a (a + 4) → Q none (nn, ss, μ')) : am_Wp mv_P (d + 1) jB_setFlagsAt [.inr (some a), .inl k, .inl z] (nn, ss, μ) Q := by
  obtain ⟨h0, h1, h2, h3⟩ := h
  refine am_wp pB_setFlagsAt (Nat.le_of_ble_eq_true rfl) ?_
  refine x_aload rfl rfl ?_
  refine x_get rfl (by assumption) rfl ?_
  refine x_iload rfl rfl ?_
  refine x_iload rfl rfl ?_
  refine x_iastN (j := k) rfl (by assumption) (by omega) (by omega) rfl ?_
  intro μ' hn ho
  refine x_vret rfl ?_
  rw [mv_fu2 W k ((W k).1, z, (W k).2.2)] at hn
  refine hQ μ' ⟨by rw [ho _ (by omega)]; exact h0, ?_, hn, ?_⟩ (fr.one ho (by omega) (by omega))
  · rw [ho _ (by omega), h1, ← mv_fu1]
    congr 5
    funext j
    by_cases hj : j = k <;> simp [am_fu, hj]
  · rw [ho _ (by omega), h3, ← mv_fu3]
    congr 5
    funext j
    by_cases hj : j = k <;> simp [am_fu, hj]
theorem c_B_move {f t : Nat} (h : bxA μ a W n nx vl) (hf : f < 12) (ht : t < 12) (hQ : ∀ μ', bxA μ' a (am_fu W t (W f)) n nx vl → fr μ μ' a (a + 4) → Q none (nn, ss, μ')) : am_Wp mv_P (d + 1) jB_move [.inr (some a), .inl f, .inl t] (nn, ss, μ) Q := by
  obtain ⟨h0, h1, h2, h3⟩ := h
  refine am_wp pB_move (Nat.le_of_ble_eq_true rfl) ?_
  refine x_aload rfl rfl ?_
  refine x_get rfl (by assumption) rfl ?_
  refine x_iload rfl rfl ?_
  refine x_aload rfl rfl ?_
  refine x_get rfl (by assumption) rfl ?_
  refine x_iload rfl rfl ?_
  refine x_ialdN (j := f) rfl (by assumption) (by omega) (by omega) ?_
  refine x_iastN (j := t) rfl (by assumption) (by omega) (by omega) rfl ?_
  intro μ1 n1 o1
  have h0 := (o1 a (by omega)).trans h0
  have h2 := (o1 (a + 2) (by omega)).trans h2
  have h3 := (o1 (a + 3) (by omega)).trans h3
  refine x_aload rfl rfl ?_
  refine x_get rfl (by assumption) rfl ?_
  refine x_iload rfl rfl ?_
  refine x_aload rfl rfl ?_
  refine x_get rfl (by assumption) rfl ?_
  refine x_iload rfl rfl ?_
  refine x_ialdN (j := f) rfl (by assumption) (by omega) (by omega) ?_
  refine x_iastN (j := t) rfl (by assumption) (by omega) (by omega) rfl ?_
  intro μ2 n2 o2
  have h0 := (o2 a (by omega)).trans h0
  have n1 := (o2 (a + 1) (by omega)).trans n1
  have h3 := (o2 (a + 3) (by omega)).trans h3
  refine x_aload rfl rfl ?_
  refine x_get rfl (by assumption) rfl ?_
  refine x_iload rfl rfl ?_
  refine x_aload rfl rfl ?_
  refine x_get rfl (by assumption) rfl ?_
  refine x_iload rfl rfl ?_
  refine x_ialdN (j := f) rfl (by assumption) (by omega) (by omega) ?_
  refine x_iastN (j := t) rfl (by assumption) (by omega) (by omega) rfl ?_
  intro μ3 n3 o3
  have h0 := (o3 a (by omega)).trans h0
  have n1 := (o3 (a + 1) (by omega)).trans n1
  have n2 := (o3 (a + 2) (by omega)).trans n2
  refine x_vret rfl ?_
  rw [mv_fu1] at n1
  rw [mv_fu2] at n2
  rw [mv_fu3] at n3
  exact hQ μ3 ⟨h0, n1, n2, n3⟩ (((fr.one o1 (by omega) (by omega)).tr (fr.one o2 (by omega) (by omega))).tr (fr.one o3 (by omega) (by omega)))
end Box
-- the first place of a UID; the length if there is none
def fp : List mv_Q → Int → Nat
  | [], _ => 0
  | q :: l, u => if q.1 = u then 0 else fp l u + 1
theorem mg_0 (q : mv_Q) (l : List mv_Q) : mg (q :: l) 0 = q := rfl
theorem mg_s (q : mv_Q) (l : List mv_Q) (k : Nat) : mg (q :: l) (k + 1) = mg l k := rfl
theorem fp_le : ∀ (l : List mv_Q) (u : Int), fp l u ≤ l.length
  | [], _ => Nat.le_refl 0
  | q :: l, u => by
    unfold fp
    have := fp_le l u
    split
    · omega
    · simp only [List.length_cons]; omega
theorem fp_ne : ∀ (l : List mv_Q) (u : Int) (k : Nat), k < fp l u → (mg l k).1 ≠ u
  | [], _, k, h => by cases h
  | q :: l, u, k, h => by
    unfold fp at h
    split at h
    · cases h
    · next hq =>
      cases k with
      | zero => rw [mg_0]; exact hq
      | succ k => rw [mg_s]; exact fp_ne l u k (by omega)
theorem fp_at : ∀ (l : List mv_Q) (u : Int), fp l u < l.length → (mg l (fp l u)).1 = u
  | [], _, h => by cases h
  | q :: l, u, h => by
    unfold fp at h ⊢
    split
    · next hq => rw [mg_0]; exact hq
    · next hq =>
      rw [if_neg hq, List.length_cons] at h
      rw [mg_s]
      exact fp_at l u (by omega)
theorem fp_is {l : List mv_Q} {u : Int} {k : Nat} (hk : k < l.length) (h : (mg l k).1 = u) (hb : ∀ j, j < k → (mg l j).1 ≠ u) : fp l u = k := by
  have h1 := fp_le l u
  rcases Nat.lt_trichotomy (fp l u) k with hlt | he | hgt
  · exact absurd (fp_at l u (by omega)) (hb _ hlt)
  · exact he
  · exact absurd h (fp_ne l u k hgt)
theorem fp_no {l : List mv_Q} {u : Int} (hb : ∀ j, j < l.length → (mg l j).1 ≠ u) : fp l u = l.length := by
  have h1 := fp_le l u
  rcases Nat.lt_or_ge (fp l u) l.length with hlt | hge
  · exact absurd (fp_at l u hlt) (hb _ hlt)
  · omega
def pz (l : List mv_Q) (u : Int) : Int := if fp l u < l.length then (fp l u : Int) else -1
/-- the mailbox holds the messages l -/
def bxL (l : List mv_Q) (W : Nat → mv_Q) : Prop := l.length ≤ 12 ∧ ∀ k, k < l.length → W k = mg l k
section Box2
variable {d nn ss a : Nat} {μ : Nat → Option am_C} {Q : Option am_V → am_M → Prop} {W : Nat → mv_Q} {nx vl : Int} {l : List mv_Q}
theorem c_B_positionOf {u : Int} (h : bxA μ a W l.length nx vl) (hl : bxL l W) (hQ : Q (some (.inl (pz l u))) (nn, ss, μ)) : am_Wp mv_P (d + 1) jB_positionOf [.inr (some a), .inl u] (nn, ss, μ) Q := by
  obtain ⟨h0, h1, h2, h3⟩ := h
  obtain ⟨hl1, hl2⟩ := hl
  have loop : ∀ (m k : Nat), k + m = l.length → (∀ j, j < k → (mg l j).1 ≠ u) → am_Ex mv_P d (am_at kB_positionOf) (2, [some (.inr (some a)), some (.inl u), some (.inl (k : Int))], [], nn, ss, μ) Q := by
    intro m
    induction m with
    | zero =>
      intro k hk hb
      refine x_iload rfl rfl ?_
      refine x_aload rfl rfl ?_
      refine x_get rfl (by assumption) rfl ?_
      refine x_icmp_ge rfl (fun hc => ?_) (fun hc => ?_)
      · refine x_const rfl ?_
        refine x_iret rfl ?_
        have e : pz l u = -1 := by
          unfold pz
          rw [if_neg]
          rw [fp_no (fun j hj => hb j (by omega))]
          omega
        rw [e] at hQ
        exact hQ
      · exact absurd hc (by omega)
    | succ m ih =>
      intro k hk hb
      refine x_iload rfl rfl ?_
      refine x_aload rfl rfl ?_
      refine x_get rfl (by assumption) rfl ?_
      refine x_icmp_ge rfl (fun hc => ?_) (fun hc => ?_)
      · exact absurd hc (by omega)
      · refine x_aload rfl rfl ?_
        refine x_get rfl (by assumption) rfl ?_
        refine x_iload rfl rfl ?_
        refine x_ialdN (j := k) rfl (by assumption) (by omega) (by omega) ?_
        refine x_iload rfl rfl ?_
        refine x_icmp_ne rfl (fun hc => ?_) (fun hc => ?_)
        · refine x_iinc rfl rfl ⟨by omega, by omega⟩ ?_
          refine x_goto rfl ?_
          refine ih (k + 1) (by omega) (fun j hj => ?_)
          rcases Nat.lt_or_ge j k with hjk | hjk
          · exact hb j hjk
          · rw [show j = k by omega, ← hl2 k (by omega)]
            exact hc
        · refine x_iload rfl rfl ?_
          refine x_iret rfl ?_
          have e : pz l u = k := by
            unfold pz
            rw [fp_is (k := k) (by omega) (by rw [← hl2 k (by omega)]; exact Classical.not_not.mp hc) hb, if_pos (by omega)]
          rw [e] at hQ
          exact hQ
  refine am_wp pB_positionOf (Nat.le_of_ble_eq_true rfl) ?_
  refine x_const rfl ?_
  refine x_istore rfl (Nat.le_of_ble_eq_true rfl) ?_
  exact loop l.length 0 (by omega) (fun j hj => by omega)
def sh (W : Nat → mv_Q) (i j : Nat) : Nat → mv_Q := fun k => if i ≤ k ∧ k + 1 < j then W (k + 1) else W k
theorem sh_0 (W : Nat → mv_Q) (i : Nat) : sh W i (i + 1) = W := by
  funext k
  unfold sh
  rw [if_neg (by omega)]
theorem sh_s (W : Nat → mv_Q) {i j : Nat} (h : i < j) : am_fu (sh W i j) (j - 1) (sh W i j j) = sh W i (j + 1) := by
  funext k
  unfold am_fu sh
  by_cases hk : k = j - 1
  · subst hk
    rw [if_pos rfl, if_neg (by omega), if_pos (by omega), show j - 1 + 1 = j by omega]
  · rw [if_neg hk]
    by_cases h2 : i ≤ k ∧ k + 1 < j
    · rw [if_pos h2, if_pos (by omega)]
    · rw [if_neg h2, if_neg (by omega)]
theorem c_B_removeAt {n i : Nat} (h : bxA μ a W n nx vl) (hi : i < n) (hn12 : n ≤ 12) (hQ : ∀ μ', bxA μ' a (sh W i n) (n - 1) nx vl → fr μ μ' a (a + 4) → Q none (nn, ss, μ')) : am_Wp mv_P (d + 2) jB_removeAt [.inr (some a), .inl i] (nn, ss, μ) Q := by
  have loop : ∀ (m j : Nat) (μ' : Nat → Option am_C), j + m = n → i + 1 ≤ j → bxA μ' a (sh W i j) n nx vl → fr μ μ' a (a + 4) → am_Ex mv_P (d + 1) (am_at kB_removeAt) (17, [some (.inr (some a)), some (.inl (i : Int)), some (.inl (j : Int))], [], nn, ss, μ') Q := by
    intro m
    induction m with
    | zero =>
      intro j μ' hj hij hb hf
      obtain ⟨h0, h1, h2, h3⟩ := hb
      refine x_iload rfl rfl ?_
      refine x_aload rfl rfl ?_
      refine x_get rfl (by assumption) rfl ?_
      refine x_icmp_ge rfl (fun hc => ?_) (fun hc => ?_)
      · refine x_aload rfl rfl ?_
        refine x_dup rfl ?_
        refine x_get rfl (by assumption) rfl ?_
        refine x_const rfl ?_
        refine x_isub rfl ⟨by omega, by omega⟩ ?_
        refine x_putG rfl (by assumption) (Nat.le_of_ble_eq_true rfl) rfl ?_
        intro μ2 hn ho
        refine x_vret rfl ?_
        rw [show j = n by omega] at h1 h2 h3
        refine hQ μ2 ⟨?_, by rw [ho _ (by omega)]; exact h1, by rw [ho _ (by omega)]; exact h2, by rw [ho _ (by omega)]; exact h3⟩ (hf.tr (fr.one ho (by omega) (by omega)))
        rw [hn, show ((n - 1 : Nat) : Int) = (n : Int) - 1 by omega]
        rfl
      · exact absurd hc (by omega)
    | succ m ih =>
      intro j μ' hj hij hb hf
      have hb' := hb
      obtain ⟨h0, h1, h2, h3⟩ := hb
      refine x_iload rfl rfl ?_
      refine x_aload rfl rfl ?_
      refine x_get rfl (by assumption) rfl ?_
      refine x_icmp_ge rfl (fun hc => ?_) (fun hc => ?_)
      · exact absurd hc (by omega)
      · refine x_aload rfl rfl ?_
        refine x_iload rfl rfl ?_
        refine x_iload rfl rfl ?_
        refine x_const rfl ?_
        refine x_isub rfl ⟨by omega, by omega⟩ ?_
        refine x_callV2 rfl (by assumption) (Nat.le_of_ble_eq_true rfl) ?_
        rw [show ((j : Int) - 1) = ((j - 1 : Nat) : Int) by omega]
        refine c_B_move hb' (by omega) (by omega) (fun μ2 hb2 hf2 => ?_)
        rw [sh_s W (by omega)] at hb2
        refine x_iinc rfl rfl ⟨by omega, by omega⟩ ?_
        refine x_goto rfl ?_
        exact ih (j + 1) μ2 (by omega) (by omega) hb2 (hf.tr hf2)
  have h' := h
  obtain ⟨h0, h1, h2, h3⟩ := h
  refine am_wp pB_removeAt (Nat.le_of_ble_eq_true rfl) ?_
  refine x_iload rfl rfl ?_
  refine x_if_lt rfl (fun hc => ?_) (fun hc => ?_)
  · exact absurd hc (by omega)
  · refine x_iload rfl rfl ?_
    refine x_aload rfl rfl ?_
    refine x_get rfl (by assumption) rfl ?_
    refine x_icmp_lt rfl (fun hc => ?_) (fun hc => ?_)
    · refine x_iload rfl rfl ?_
      refine x_const rfl ?_
      refine x_iadd rfl ⟨by omega, by omega⟩ ?_
      refine x_istore rfl (Nat.le_of_ble_eq_true rfl) ?_
      exact loop (n - (i + 1)) (i + 1) μ (by omega) (by omega) (by rw [sh_0]; exact h') fr.rf
    · exact absurd hc (by omega)
def si (W : Nat → mv_Q) (n t : Nat) : Nat → mv_Q := fun k => if t < k ∧ k ≤ n then W (k - 1) else W k
theorem si_0 (W : Nat → mv_Q) (n : Nat) : si W n n = W := by
  funext k
  unfold si
  rw [if_neg (by omega)]
theorem si_s (W : Nat → mv_Q) {n t : Nat} (h : t + 1 ≤ n) : am_fu (si W n (t + 1)) (t + 1) (si W n (t + 1) t) = si W n t := by
  funext k
  unfold am_fu si
  by_cases hk : k = t + 1
  · subst hk
    rw [if_pos rfl, if_neg (by omega), if_pos (by omega), show t + 1 - 1 = t by omega]
  · rw [if_neg hk]
    by_cases h2 : t + 1 < k ∧ k ≤ n
    · rw [if_pos h2, if_pos (by omega)]
    · rw [if_neg h2, if_neg (by omega)]
theorem c_B_insert {n : Nat} {u f z : Int} (h : bxA μ a W n nx vl) (hn12 : n < 12) (hQ : ∀ (μ' : Nat → Option am_C) (p : Nat), p ≤ n → (∀ k, p ≤ k → k < n → u < (W k).1) → (p = 0 ∨ (W (p - 1)).1 ≤ u) → bxA μ' a (am_fu (si W n p) p (u, f, z)) (n + 1) nx vl → fr μ μ' a (a + 4) → Q none (nn, ss, μ')) : am_Wp mv_P (d + 2) jB_insert [.inr (some a), .inl u, .inl f, .inl z] (nn, ss, μ) Q := by
  have fin : ∀ (t : Nat) (μ' : Nat → Option am_C), t ≤ n → (∀ k, t ≤ k → k < n → u < (W k).1) → (t = 0 ∨ (W (t - 1)).1 ≤ u) → bxA μ' a (si W n t) n nx vl → fr μ μ' a (a + 4) → am_Ex mv_P (d + 1) (am_at kB_insert) (48, [some (.inr (some a)), some (.inl u), some (.inl f), some (.inl z), some (.inl (t : Int))], [], nn, ss, μ') Q := by
    intro t μ' ht hg hl hb hf
    obtain ⟨h0, h1, h2, h3⟩ := hb
    refine x_aload rfl rfl ?_
    refine x_get rfl (by assumption) rfl ?_
    refine x_iload rfl rfl ?_
    refine x_iload rfl rfl ?_
    refine x_iastN (j := t) rfl (by assumption) (by omega) (by omega) rfl ?_
    intro μ1 n1 o1
    have h0 := (o1 a (by omega)).trans h0
    have h2 := (o1 (a + 2) (by omega)).trans h2
    have h3 := (o1 (a + 3) (by omega)).trans h3
    refine x_aload rfl rfl ?_
    refine x_get rfl (by assumption) rfl ?_
    refine x_iload rfl rfl ?_
    refine x_iload rfl rfl ?_
    refine x_iastN (j := t) rfl (by assumption) (by omega) (by omega) rfl ?_
    intro μ2 n2 o2
    have h0 := (o2 a (by omega)).trans h0
    have n1 := (o2 (a + 1) (by omega)).trans n1
    have h3 := (o2 (a + 3) (by omega)).trans h3
    refine x_aload rfl rfl ?_
    refine x_get rfl (by assumption) rfl ?_
    refine x_iload rfl rfl ?_
    refine x_iload rfl rfl ?_
    refine x_iastN (j := t) rfl (by assumption) (by omega) (by omega) rfl ?_
    intro μ3 n3 o3
    have h0 := (o3 a (by omega)).trans h0
    have n1 := (o3 (a + 1) (by omega)).trans n1
    have n2 := (o3 (a + 2) (by omega)).trans n2
    refine x_aload rfl rfl ?_
    refine x_dup rfl ?_
    refine x_get rfl (by assumption) rfl ?_
    refine x_const rfl ?_
    refine x_iadd rfl ⟨by omega, by omega⟩ ?_
    refine x_putG rfl (by assumption) (Nat.le_of_ble_eq_true rfl) rfl ?_
    intro μ4 n4 o4
    have n1 := (o4 (a + 1) (by omega)).trans n1
    have n2 := (o4 (a + 2) (by omega)).trans n2
    have n3 := (o4 (a + 3) (by omega)).trans n3
    refine x_vret rfl ?_
    rw [mv_fu1 (si W n t) t (u, f, z)] at n1
    rw [mv_fu2 (si W n t) t (u, f, z)] at n2
    rw [mv_fu3 (si W n t) t (u, f, z)] at n3
    refine hQ μ4 t ht hg hl ⟨?_, n1, n2, n3⟩ (hf.tr ((((fr.one o1 (by omega) (by omega)).tr (fr.one o2 (by omega) (by omega))).tr (fr.one o3 (by omega) (by omega))).tr (fr.one o4 (by omega) (by omega))))
    rw [n4]
    rfl
  have loop : ∀ (t : Nat) (μ' : Nat → Option am_C), t ≤ n → (∀ k, t ≤ k → k < n → u < (W k).1) → bxA μ' a (si W n t) n nx vl → fr μ μ' a (a + 4) → am_Ex mv_P (d + 1) (am_at kB_insert) (14, [some (.inr (some a)), some (.inl u), some (.inl f), some (.inl z), some (.inl (t : Int))], [], nn, ss, μ') Q := by
    intro t
    induction t with
    | zero =>
      intro μ' ht hg hb hf
      refine x_iload rfl rfl ?_
      refine x_if_le rfl (fun hc => ?_) (fun hc => ?_)
      · exact fin 0 μ' ht hg (Or.inl rfl) hb hf
      · exact absurd hc (by omega)
    | succ t ih =>
      intro μ' ht hg hb hf
      have hb' := hb
      obtain ⟨h0, h1, h2, h3⟩ := hb
      have et : ((t + 1 : Nat) : Int) - 1 = (t : Int) := by omega
      refine x_iload rfl rfl ?_
      refine x_if_le rfl (fun hc => ?_) (fun hc => ?_)
      · exact absurd hc (by omega)
      · refine x_aload rfl rfl ?_
        refine x_get rfl (by assumption) rfl ?_
        refine x_iload rfl rfl ?_
        refine x_const rfl ?_
        refine x_isub rfl ⟨by omega, by omega⟩ ?_
        refine x_ialdN (j := t) rfl (by assumption) (by omega) (by omega) ?_
        refine x_iload rfl rfl ?_
        refine x_icmp_le rfl (fun hc => ?_) (fun hc => ?_)
        · have e1 : si W n (t + 1) t = W t := by
            unfold si
            rw [if_neg (by omega)]
          rw [e1] at hc
          exact fin (t + 1) μ' ht hg (Or.inr hc) hb' hf
        · have e1 : si W n (t + 1) t = W t := by
            unfold si
            rw [if_neg (by omega)]
          rw [e1] at hc
          refine x_aload rfl rfl ?_
          refine x_iload rfl rfl ?_
          refine x_const rfl ?_
          refine x_isub rfl ⟨by omega, by omega⟩ ?_
          refine x_iload rfl rfl ?_
          refine x_callV2 rfl (by assumption) (Nat.le_of_ble_eq_true rfl) ?_
          rw [et]
          refine c_B_move hb' (by omega) (by omega) (fun μ2 hb2 hf2 => ?_)
          rw [si_s W (by omega)] at hb2
          refine x_iinc rfl rfl ⟨by omega, by omega⟩ ?_
          refine x_goto rfl ?_
          rw [show ((t + 1 : Nat) : Int) + -1 = (t : Int) by omega]
          refine ih μ2 (by omega) (fun k hk hkn => ?_) hb2 (hf.tr hf2)
          rcases Nat.lt_or_ge t k with hlt | hge
          · exact hg k (by omega) hkn
          · rw [show k = t by omega]
            omega
  have h' := h
  obtain ⟨h0, h1, h2, h3⟩ := h
  refine am_wp pB_insert (Nat.le_of_ble_eq_true rfl) ?_
  refine x_aload rfl rfl ?_
  refine x_callV0 rfl (by assumption) (Nat.le_of_ble_eq_true rfl) ?_
  refine c_B_isFull h' ?_
  rw [if_neg (show ¬ 12 ≤ n by omega)]
  refine x_if_eq rfl (fun hc => ?_) (fun hc => ?_)
  · refine x_aload rfl rfl ?_
    refine x_get rfl (by assumption) rfl ?_
    refine x_istore rfl (Nat.le_of_ble_eq_true rfl) ?_
    exact loop n μ (Nat.le_refl n) (fun k h1 h2 => by omega) (by rw [si_0]; exact h') fr.rf
  · exact absurd rfl hc
theorem c_B_addNew {n : Nat} {f z : Int} (h : bxA μ a W n nx vl) (hn12 : n < 12) (hx : 0 ≤ nx ∧ nx < 100000) (hu : ∀ k, k < n → (W k).1 < nx) (hQ : ∀ μ', bxA μ' a (am_fu W n (nx, f, z)) (n + 1) (nx + 1) vl → fr μ μ' a (a + 4) → Q (some (.inl nx)) (nn, ss, μ')) : am_Wp mv_P (d + 3) jB_addNew [.inr (some a), .inl f, .inl z] (nn, ss, μ) Q := by
  obtain ⟨h0, h1, h2, h3⟩ := h
  refine am_wp pB_addNew (Nat.le_of_ble_eq_true rfl) ?_
  refine x_aload rfl rfl ?_
  refine x_get rfl (by assumption) rfl ?_
  refine x_istore rfl (Nat.le_of_ble_eq_true rfl) ?_
  refine x_aload rfl rfl ?_
  refine x_dup rfl ?_
  refine x_get rfl (by assumption) rfl ?_
  refine x_const rfl ?_
  refine x_iadd rfl ⟨by omega, by omega⟩ ?_
  refine x_putG rfl (by assumption) (Nat.le_of_ble_eq_true rfl) rfl ?_
  intro μ1 n1 o1
  have h1 := (o1 (a + 1) (by omega)).trans h1
  have h2 := (o1 (a + 2) (by omega)).trans h2
  have h3 := (o1 (a + 3) (by omega)).trans h3
  have hb : bxA μ1 a W n (nx + 1) vl := ⟨n1, h1, h2, h3⟩
  refine x_aload rfl rfl ?_
  refine x_iload rfl rfl ?_
  refine x_iload rfl rfl ?_
  refine x_iload rfl rfl ?_
  refine x_callV3 rfl (by assumption) (Nat.le_of_ble_eq_true rfl) ?_
  refine c_B_insert hb hn12 (fun μ2 p hp hg hl hb2 hf2 => ?_)
  have e : p = n := by
    rcases Nat.lt_or_ge p n with hlt | hge
    · have e1 := hg p (Nat.le_refl p) hlt
      have e2 := hu p hlt
      omega
    · omega
  rw [e, si_0] at hb2
  refine x_iload rfl rfl ?_
  refine x_iret rfl ?_
  exact hQ μ2 hb2 ((fr.one o1 (by omega) (by omega)).tr hf2)
theorem c_B_takeBackAdded {u : Int} (h : bxA μ a W l.length nx vl) (hl : bxL l W) (hu : fp l u < l.length) (hQ : ∀ μ', bxA μ' a (sh W (fp l u) l.length) (l.length - 1) u vl → fr μ μ' a (a + 4) → Q none (nn, ss, μ')) : am_Wp mv_P (d + 3) jB_takeBackAdded [.inr (some a), .inl u] (nn, ss, μ) Q := by
  have h' := h
  obtain ⟨h0, h1, h2, h3⟩ := h
  refine am_wp pB_takeBackAdded (Nat.le_of_ble_eq_true rfl) ?_
  refine x_aload rfl rfl ?_
  refine x_aload rfl rfl ?_
  refine x_iload rfl rfl ?_
  refine x_callV1 rfl (by assumption) (Nat.le_of_ble_eq_true rfl) ?_
  refine c_B_positionOf h' hl ?_
  have e : pz l u = (fp l u : Int) := by
    unfold pz
    rw [if_pos hu]
  rw [e]
  refine x_callV1 rfl (by assumption) (Nat.le_of_ble_eq_true rfl) ?_
  refine c_B_removeAt h' hu hl.1 (fun μ2 hb2 hf2 => ?_)
  obtain ⟨h0, h1, h2, h3⟩ := hb2
  refine x_aload rfl rfl ?_
  refine x_iload rfl rfl ?_
  refine x_putG rfl (by assumption) (Nat.le_of_ble_eq_true rfl) rfl ?_
  intro μ3 n3 o3
  have h1 := (o3 (a + 1) (by omega)).trans h1
  have h2 := (o3 (a + 2) (by omega)).trans h2
  have h3 := (o3 (a + 3) (by omega)).trans h3
  refine x_vret rfl ?_
  exact hQ μ3 ⟨n3, h1, h2, h3⟩ (hf2.tr (fr.one o3 (by omega) (by omega)))
theorem c_B_restoreFlags {u z : Int} (h : bxA μ a W l.length nx vl) (hl : bxL l W) (hu : fp l u < l.length) (hQ : ∀ μ', bxA μ' a (am_fu W (fp l u) ((W (fp l u)).1, z, (W (fp l u)).2.2)) l.length nx vl → fr μ μ' a (a + 4) → Q none (nn, ss, μ')) : am_Wp mv_P (d + 2) jB_restoreFlags [.inr (some a), .inl u, .inl z] (nn, ss, μ) Q := by
  have h' := h
  obtain ⟨h0, h1, h2, h3⟩ := h
  have hl1 := hl.1
  refine am_wp pB_restoreFlags (Nat.le_of_ble_eq_true rfl) ?_
  refine x_aload rfl rfl ?_
  refine x_iload rfl rfl ?_
  refine x_callV1 rfl (by assumption) (Nat.le_of_ble_eq_true rfl) ?_
  refine c_B_positionOf h' hl ?_
  have e : pz l u = (fp l u : Int) := by
    unfold pz
    rw [if_pos hu]
  rw [e]
  refine x_istore rfl (Nat.le_of_ble_eq_true rfl) ?_
  refine x_iload rfl rfl ?_
  refine x_const rfl ?_
  refine x_icmp_eq rfl (fun hc => ?_) (fun hc => ?_)
  · exact absurd hc (by omega)
  · refine x_aload rfl rfl ?_
    refine x_get rfl (by assumption) rfl ?_
    refine x_iload rfl rfl ?_
    refine x_iload rfl rfl ?_
    refine x_iastN (j := fp l u) rfl (by assumption) (by omega) (by omega) rfl ?_
    intro μ' hn ho
    refine x_vret rfl ?_
    rw [mv_fu2 W (fp l u) ((W (fp l u)).1, z, (W (fp l u)).2.2)] at hn
    refine hQ μ' ⟨by rw [ho _ (by omega)]; exact h0, ?_, hn, ?_⟩ (fr.one ho (by omega) (by omega))
    · rw [ho _ (by omega), h1, ← mv_fu1]
      congr 5
      funext j
      by_cases hj : j = fp l u <;> simp [am_fu, hj]
    · rw [ho _ (by omega), h3, ← mv_fu3]
      congr 5
      funext j
      by_cases hj : j = fp l u <;> simp [am_fu, hj]
end Box2
