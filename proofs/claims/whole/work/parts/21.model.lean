/-! the log of changes, and what a mailbox is behind it -/
abbrev mv_H : Type := Int × Int × Int × Int × Int
abbrev mv_B : Type := List mv_Q × Int
def ap (c : mv_H) (b : mv_B) : mv_B :=
  if c.1 = 1 then (b.1 ++ [(c.2.2.1, c.2.2.2.1, c.2.2.2.2)], c.2.2.1 + 1)
  else if c.1 = 2 then (b.1.eraseIdx (fp b.1 c.2.2.1), b.2)
  else (b.1.set (fp b.1 c.2.2.1) ((mg b.1 (fp b.1 c.2.2.1)).1, c.2.2.2.1, (mg b.1 (fp b.1 c.2.2.1)).2.2), b.2)
def apS (S : Nat → mv_B) (c : mv_H) : Nat → mv_B := am_fu S c.2.1.toNat (ap c (S c.2.1.toNat))
def rp (lg : List mv_H) : Nat → mv_B := lg.foldl apS (fun _ => ([], 1))
theorem rp_nil : rp [] = fun _ => ([], 1) := rfl
theorem rp_app (lg : List mv_H) (c : mv_H) : rp (lg ++ [c]) = apS (rp lg) c := by
  unfold rp
  rw [List.foldl_append]
  rfl
theorem mg_app (l : List mv_Q) (q : mv_Q) (k : Nat) : mg (l ++ [q]) k = if k < l.length then mg l k else if k = l.length then q else (0, 0, 0) := by
  unfold mg
  rw [List.getD_eq_getElem?_getD, List.getD_eq_getElem?_getD]
  by_cases h : k < l.length
  · rw [if_pos h, List.getElem?_append_left h]
  · rw [if_neg h, List.getElem?_append_right (by omega)]
    by_cases h2 : k = l.length
    · rw [if_pos h2, h2, Nat.sub_self]
      rfl
    · rw [if_neg h2, List.getElem?_eq_none (by simp; omega)]
      rfl
theorem mg_er (l : List mv_Q) (i k : Nat) : mg (l.eraseIdx i) k = if k < i then mg l k else mg l (k + 1) := by
  unfold mg
  rw [List.getD_eq_getElem?_getD, List.getElem?_eraseIdx]
  by_cases h : k < i
  · rw [if_pos h, if_pos h, List.getD_eq_getElem?_getD]
  · rw [if_neg h, if_neg h, List.getD_eq_getElem?_getD]
theorem mg_set (l : List mv_Q) (i k : Nat) (q : mv_Q) : mg (l.set i q) k = if k = i ∧ i < l.length then q else mg l k := by
  unfold mg
  rw [List.getD_eq_getElem?_getD, List.getD_eq_getElem?_getD]
  by_cases h : k = i
  · subst h
    by_cases h2 : k < l.length
    · rw [if_pos ⟨rfl, h2⟩, List.getElem?_set_self h2]
      rfl
    · rw [if_neg (fun q => h2 q.2), List.getElem?_eq_none (by rw [List.length_set]; omega), List.getElem?_eq_none (by omega)]
  · rw [if_neg (fun q => h q.1), List.getElem?_set_ne (fun q => h q.symm)]
theorem mg_ext {l l' : List mv_Q} (hl : l.length = l'.length) (h : ∀ k, k < l.length → mg l k = mg l' k) : l = l' := by
  apply List.ext_getElem? 
  intro k
  by_cases hk : k < l.length
  · have e := h k hk
    unfold mg at e
    rw [List.getD_eq_getElem?_getD, List.getD_eq_getElem?_getD] at e
    rw [List.getElem?_eq_getElem hk, List.getElem?_eq_getElem (by omega)] at e ⊢
    simpa using e
  · rw [List.getElem?_eq_none (by omega), List.getElem?_eq_none (by omega)]
/-- UIDs grow -/
def so (l : List mv_Q) : Prop := ∀ i j, i < j → j < l.length → (mg l i).1 < (mg l j).1
/-- a mailbox in order: UIDs grow, lie in 1 .. next-1; at most 12 -/
def wb (b : mv_B) : Prop := so b.1 ∧ b.1.length ≤ 12 ∧ 1 ≤ b.2 ∧ ∀ k, k < b.1.length → 1 ≤ (mg b.1 k).1 ∧ (mg b.1 k).1 < b.2
/-- a change that can be done -/
def vc (c : mv_H) (b : mv_B) : Prop := (c.1 = 1 ∧ c.2.2.1 = b.2 ∧ b.1.length < 12) ∨ ((c.1 = 2 ∨ c.1 = 3) ∧ fp b.1 c.2.2.1 < b.1.length)
theorem wb_0 : wb ([], 1) := ⟨fun i j h1 h2 => (by cases h2), by decide, by decide, fun k h => (by cases h)⟩
theorem er_len {l : List mv_Q} {i : Nat} (h : i < l.length) : (l.eraseIdx i).length = l.length - 1 := List.length_eraseIdx_of_lt h
theorem wb_ap {c : mv_H} {b : mv_B} (h : wb b) (hv : vc c b) : wb (ap c b) := by
  obtain ⟨h1, h2, h3, h4⟩ := h
  unfold ap
  rcases hv with ⟨k1, k2, k3⟩ | ⟨k1, k2⟩
  · rw [if_pos k1]
    refine ⟨fun i j hij hj => ?_, by simp; omega, by simp only; omega, fun k hk => ?_⟩
    · simp only [List.length_append, List.length_cons, List.length_nil] at hj
      simp only [mg_app]
      rw [if_pos (show i < b.1.length by omega)]
      by_cases hj2 : j < b.1.length
      · rw [if_pos hj2]
        exact h1 i j hij hj2
      · rw [if_neg hj2, if_pos (by omega), k2]
        exact (h4 i (by omega)).2
    · simp only [List.length_append, List.length_cons, List.length_nil] at hk
      simp only [mg_app]
      by_cases hk2 : k < b.1.length
      · rw [if_pos hk2]
        have := h4 k hk2
        omega
      · rw [if_neg hk2, if_pos (by omega)]
        simp only
        omega
  · have hn1 : ¬ c.1 = 1 := by omega
    rw [if_neg hn1]
    rcases k1 with k1 | k1
    · rw [if_pos k1]
      refine ⟨fun i j hij hj => ?_, by rw [er_len k2]; omega, h3, fun k hk => ?_⟩
      · rw [er_len k2] at hj
        simp only [mg_er]
        split <;> split <;> exact h1 _ _ (by omega) (by omega)
      · rw [er_len k2] at hk
        simp only [mg_er]
        split <;> exact h4 _ (by omega)
    · rw [if_neg (by omega)]
      have key : ∀ k, k < b.1.length → (mg (b.1.set (fp b.1 c.2.2.1) ((mg b.1 (fp b.1 c.2.2.1)).1, c.2.2.2.1, (mg b.1 (fp b.1 c.2.2.1)).2.2)) k).1 = (mg b.1 k).1 := by
        intro k hk
        rw [mg_set]
        split
        · next hq => rw [hq.1]
        · rfl
      refine ⟨fun i j hij hj => ?_, by rw [List.length_set]; exact h2, h3, fun k hk => ?_⟩
      · rw [List.length_set] at hj
        rw [key i (by omega), key j hj]
        exact h1 i j hij hj
      · rw [List.length_set] at hk
        rw [key k hk]
        exact h4 k hk
/-- the mailbox at a holds b -/
def bx (μ : Nat → Option am_C) (a : Nat) (b : mv_B) (vl : Int) : Prop := ∃ W, bxA μ a W b.1.length b.2 vl ∧ bxL b.1 W
theorem bx.fr {μ μ' : Nat → Option am_C} {a lo hi : Nat} {b : mv_B} {vl : Int} (h : bx μ a b vl) (hf : fr μ μ' lo hi) (ho : a + 4 ≤ lo ∨ hi ≤ a) : bx μ' a b vl := by
  obtain ⟨W, h1, h2⟩ := h
  exact ⟨W, h1.fr hf ho, h2⟩
section Box3
variable {d nn ss a : Nat} {μ : Nat → Option am_C} {Q : Option am_V → am_M → Prop} {vl : Int} {b : mv_B}
theorem d_B_addNew {f z : Int} (m : Int) (h : bx μ a b vl) (hw : wb b) (hn : b.1.length < 12) (hx : b.2 < 100000) (hQ : ∀ μ', bx μ' a (ap (1, m, b.2, f, z) b) vl → fr μ μ' a (a + 4) → Q (some (.inl b.2)) (nn, ss, μ')) : am_Wp mv_P (d + 3) jB_addNew [.inr (some a), .inl f, .inl z] (nn, ss, μ) Q := by
  obtain ⟨W, h1, h2, h3⟩ := h
  obtain ⟨w1, w2, w3, w4⟩ := hw
  refine c_B_addNew h1 hn ⟨by omega, hx⟩ (fun k hk => by rw [h3 k hk]; exact (w4 k hk).2) (fun μ' hb hf => hQ μ' ⟨am_fu W b.1.length (b.2, f, z), ?_, ?_⟩ hf)
  · have e : (ap (1, m, b.2, f, z) b) = (b.1 ++ [(b.2, f, z)], b.2 + 1) := rfl
    rw [e, List.length_append]
    exact hb
  · have e : (ap (1, m, b.2, f, z) b) = (b.1 ++ [(b.2, f, z)], b.2 + 1) := rfl
    rw [e]
    refine ⟨by simp; omega, fun k hk => ?_⟩
    simp only [List.length_append, List.length_cons, List.length_nil] at hk
    rw [mg_app]
    by_cases hk2 : k < b.1.length
    · rw [if_pos hk2, am_fu_n (by omega)]
      exact h3 k hk2
    · rw [if_neg hk2, if_pos (by omega), show k = b.1.length by omega, am_fu_s]
theorem d_B_removeAt {i : Nat} (h : bx μ a b vl) (hi : i < b.1.length) (hQ : ∀ μ', bx μ' a (b.1.eraseIdx i, b.2) vl → fr μ μ' a (a + 4) → Q none (nn, ss, μ')) : am_Wp mv_P (d + 2) jB_removeAt [.inr (some a), .inl i] (nn, ss, μ) Q := by
  obtain ⟨W, h1, h2, h3⟩ := h
  refine c_B_removeAt h1 hi h2 (fun μ' hb hf => hQ μ' ⟨sh W i b.1.length, ?_, ?_⟩ hf)
  · rw [er_len hi]
    exact hb
  · refine ⟨by rw [er_len hi]; omega, fun k hk => ?_⟩
    rw [er_len hi] at hk
    rw [mg_er]
    unfold sh
    by_cases hk2 : k < i
    · rw [if_pos hk2, if_neg (by omega)]
      exact h3 k (by omega)
    · rw [if_neg hk2, if_pos (by omega)]
      exact h3 (k + 1) (by omega)
theorem bxL_set {l : List mv_Q} {W : Nat → mv_Q} {i : Nat} {z : Int} (h : bxL l W) (hi : i < l.length) : bxL (l.set i ((mg l i).1, z, (mg l i).2.2)) (am_fu W i ((W i).1, z, (W i).2.2)) := by
  obtain ⟨h2, h3⟩ := h
  refine ⟨by rw [List.length_set]; exact h2, fun k hk => ?_⟩
  rw [List.length_set] at hk
  rw [mg_set]
  by_cases hk2 : k = i
  · rw [if_pos ⟨hk2, hi⟩, hk2, am_fu_s, h3 i hi]
  · rw [if_neg (fun q => hk2 q.1), am_fu_n hk2]
    exact h3 k hk
theorem d_B_setFlagsAt {i : Nat} {z : Int} (h : bx μ a b vl) (hi : i < b.1.length) (hQ : ∀ μ', bx μ' a (b.1.set i ((mg b.1 i).1, z, (mg b.1 i).2.2), b.2) vl → fr μ μ' a (a + 4) → Q none (nn, ss, μ')) : am_Wp mv_P (d + 1) jB_setFlagsAt [.inr (some a), .inl i, .inl z] (nn, ss, μ) Q := by
  obtain ⟨W, h1, h2⟩ := h
  have h12 := h2.1
  refine c_B_setFlagsAt h1 (by omega) (fun μ' hb hf => hQ μ' ⟨_, ?_, bxL_set h2 hi⟩ hf)
  rw [List.length_set]
  exact hb
theorem d_B_restoreFlags {u z : Int} (h : bx μ a b vl) (hu : fp b.1 u < b.1.length) (hQ : ∀ μ', bx μ' a (b.1.set (fp b.1 u) ((mg b.1 (fp b.1 u)).1, z, (mg b.1 (fp b.1 u)).2.2), b.2) vl → fr μ μ' a (a + 4) → Q none (nn, ss, μ')) : am_Wp mv_P (d + 2) jB_restoreFlags [.inr (some a), .inl u, .inl z] (nn, ss, μ) Q := by
  obtain ⟨W, h1, h2⟩ := h
  refine c_B_restoreFlags h1 h2 hu (fun μ' hb hf => hQ μ' ⟨_, ?_, bxL_set h2 hu⟩ hf)
  rw [List.length_set]
  exact hb
theorem d_B_takeBackAdded {u : Int} (h : bx μ a b vl) (hu : fp b.1 u < b.1.length) (hQ : ∀ μ', bx μ' a (b.1.eraseIdx (fp b.1 u), u) vl → fr μ μ' a (a + 4) → Q none (nn, ss, μ')) : am_Wp mv_P (d + 3) jB_takeBackAdded [.inr (some a), .inl u] (nn, ss, μ) Q := by
  obtain ⟨W, h1, h2, h3⟩ := h
  refine c_B_takeBackAdded h1 ⟨h2, h3⟩ hu (fun μ' hb hf => hQ μ' ⟨sh W (fp b.1 u) b.1.length, ?_, ?_⟩ hf)
  · rw [er_len hu]
    exact hb
  · refine ⟨by rw [er_len hu]; omega, fun k hk => ?_⟩
    rw [er_len hu] at hk
    rw [mg_er]
    unfold sh
    by_cases hk2 : k < fp b.1 u
    · rw [if_pos hk2, if_neg (by omega)]
      exact h3 k (by omega)
    · rw [if_neg hk2, if_pos (by omega)]
      exact h3 (k + 1) (by omega)
/-- a removed message comes back to its place -/
theorem d_B_insert {i : Nat} (hs : so b.1) (h12 : b.1.length ≤ 12) (hi : i < b.1.length) (h : bx μ a (b.1.eraseIdx i, b.2) vl) (hQ : ∀ μ', bx μ' a b vl → fr μ μ' a (a + 4) → Q none (nn, ss, μ')) : am_Wp mv_P (d + 2) jB_insert [.inr (some a), .inl (mg b.1 i).1, .inl (mg b.1 i).2.1, .inl (mg b.1 i).2.2] (nn, ss, μ) Q := by
  obtain ⟨W, h1, h2, h3⟩ := h
  have el : (b.1.eraseIdx i).length = b.1.length - 1 := er_len hi
  simp only at h1 h2 h3
  rw [el] at h1 h2 h3
  have hW : ∀ k, k < b.1.length - 1 → W k = if k < i then mg b.1 k else mg b.1 (k + 1) := fun k hk => by rw [h3 k hk, mg_er]
  refine c_B_insert h1 (by omega) (fun μ' p hp hg hl hb hf => ?_)
  have hpi : p = i := by
    rcases Nat.lt_trichotomy p i with hlt | he | hgt
    · have e1 := hg p (Nat.le_refl p) (by omega)
      rw [hW p (by omega), if_pos hlt] at e1
      have e2 := hs p i hlt hi
      omega
    · exact he
    · rcases hl with hl | hl
      · omega
      · rw [hW (p - 1) (by omega), if_neg (by omega), show p - 1 + 1 = p by omega] at hl
        have e2 := hs i p hgt (by omega)
        omega
  subst hpi
  refine hQ μ' ⟨am_fu (si W (b.1.length - 1) p) p ((mg b.1 p).1, (mg b.1 p).2.1, (mg b.1 p).2.2), ?_, h12, fun k hk => ?_⟩ hf
  · rw [show b.1.length - 1 + 1 = b.1.length by omega] at hb
    exact hb
  · by_cases hkp : k = p
    · rw [hkp, am_fu_s]
    · rw [am_fu_n hkp]
      unfold si
      by_cases hk2 : p < k ∧ k ≤ b.1.length - 1
      · rw [if_pos hk2, hW (k - 1) (by omega), if_neg (by omega), show k - 1 + 1 = k by omega]
      · rw [if_neg hk2, hW k (by omega), if_pos (by omega)]
theorem d_B_positionOf {u : Int} (h : bx μ a b vl) (hQ : Q (some (.inl (pz b.1 u))) (nn, ss, μ)) : am_Wp mv_P (d + 1) jB_positionOf [.inr (some a), .inl u] (nn, ss, μ) Q := by
  obtain ⟨W, h1, h2⟩ := h
  exact c_B_positionOf h1 h2 hQ
theorem d_B_uidAt {k : Nat} (h : bx μ a b vl) (hk : k < b.1.length) (hQ : Q (some (.inl (mg b.1 k).1)) (nn, ss, μ)) : am_Wp mv_P (d + 1) jB_uidAt [.inr (some a), .inl k] (nn, ss, μ) Q := by
  obtain ⟨W, h1, h2, h3⟩ := h
  exact c_B_uidAt h1 (by omega) (by rw [h3 k hk]; exact hQ)
theorem d_B_flagsAt {k : Nat} (h : bx μ a b vl) (hk : k < b.1.length) (hQ : Q (some (.inl (mg b.1 k).2.1)) (nn, ss, μ)) : am_Wp mv_P (d + 1) jB_flagsAt [.inr (some a), .inl k] (nn, ss, μ) Q := by
  obtain ⟨W, h1, h2, h3⟩ := h
  exact c_B_flagsAt h1 (by omega) (by rw [h3 k hk]; exact hQ)
theorem d_B_sizeAt {k : Nat} (h : bx μ a b vl) (hk : k < b.1.length) (hQ : Q (some (.inl (mg b.1 k).2.2)) (nn, ss, μ)) : am_Wp mv_P (d + 1) jB_sizeAt [.inr (some a), .inl k] (nn, ss, μ) Q := by
  obtain ⟨W, h1, h2, h3⟩ := h
  exact c_B_sizeAt h1 (by omega) (by rw [h3 k hk]; exact hQ)
theorem d_B_messageCount (h : bx μ a b vl) (hQ : Q (some (.inl b.1.length)) (nn, ss, μ)) : am_Wp mv_P (d + 1) jB_messageCount [.inr (some a)] (nn, ss, μ) Q := by
  obtain ⟨W, h1, h2⟩ := h
  exact c_B_messageCount h1 hQ
theorem d_B_isFull (h : bx μ a b vl) (hQ : Q (some (.inl (if 12 ≤ b.1.length then 1 else 0))) (nn, ss, μ)) : am_Wp mv_P (d + 1) jB_isFull [.inr (some a)] (nn, ss, μ) Q := by
  obtain ⟨W, h1, h2⟩ := h
  exact c_B_isFull h1 hQ
theorem d_B_nextUid (h : bx μ a b vl) (hQ : Q (some (.inl b.2)) (nn, ss, μ)) : am_Wp mv_P (d + 1) jB_nextUid [.inr (some a)] (nn, ss, μ) Q := by
  obtain ⟨W, h1, h2⟩ := h
  exact c_B_nextUid h1 hQ
theorem d_B_validity (h : bx μ a b vl) (hQ : Q (some (.inl vl)) (nn, ss, μ)) : am_Wp mv_P (d + 1) jB_validity [.inr (some a)] (nn, ss, μ) Q := by
  obtain ⟨W, h1, h2⟩ := h
  exact c_B_validity h1 hQ
theorem d_B_growValidity (h : bx μ a b vl) (hv : 0 ≤ vl ∧ vl < 100000) (hQ : ∀ μ', bx μ' a b (vl + 1) → fr μ μ' a (a + 4) → Q none (nn, ss, μ')) : am_Wp mv_P (d + 1) jB_growValidity [.inr (some a)] (nn, ss, μ) Q := by
  obtain ⟨W, h1, h2⟩ := h
  exact c_B_growValidity h1 hv (fun μ' hb hf => hQ μ' ⟨W, hb, h2⟩ hf)
theorem bx.ob (h : bx μ a b vl) : ∃ fs, μ a = some (.inl (1, fs)) := by
  obtain ⟨W, h1, -⟩ := h
  exact ⟨_, h1.1⟩
end Box3
