/-! criteria: ends, depths and truths of tokens, from the right -/
def dr {α : Type} (d0 : α) (n : Nat) (step : Nat → (Nat → α) → α) : Nat → (Nat → α)
  | 0 => fun _ => d0
  | m + 1 => am_fu (dr d0 n step m) (n - 1 - m) (step (n - 1 - m) (dr d0 n step m))
theorem dr_ok {α : Type} {d0 : α} {n : Nat} {step : Nat → (Nat → α) → α} (hs : ∀ i f g, (∀ j, i < j → j < n → f j = g j) → step i f = step i g) : ∀ m, m ≤ n → ∀ i, n - m ≤ i → i < n → dr d0 n step m i = step i (dr d0 n step m) := by
  intro m
  induction m with
  | zero => intro _ i h1 h2; omega
  | succ m ih =>
    intro hm i h1 h2
    have key : ∀ j, n - m ≤ j → j < n → dr d0 n step (m + 1) j = dr d0 n step m j := fun j hj1 hj2 => by
      show am_fu _ _ _ j = _
      rw [am_fu_n (by omega)]
    by_cases hi : i = n - 1 - m
    · have e : dr d0 n step (m + 1) i = step i (dr d0 n step m) := by
        show am_fu _ _ _ i = _
        rw [hi, am_fu_s]
      rw [e]
      exact hs i _ _ (fun j hj1 hj2 => (key j (by omega) hj2).symm)
    · rw [key i (by omega) h2, ih (by omega) i (by omega) h2]
      exact hs i _ _ (fun j hj1 hj2 => (key j (by omega) hj2).symm)
/-- the end, and the depth, that begin at a place: behind the row 15 and 0 -/
def eX (F : Nat → mv_V) (n : Nat) (j : Int) : Int := if j < n then (F j.toNat).1 else 15
def dX (F : Nat → mv_V) (n : Nat) (j : Int) : Int := if j < n then (F j.toNat).2 else 0
def mM (op : Int) (F : Nat → mv_V) (n i : Nat) : mv_V :=
  if op < 6 then ((i : Int) + 1, 0)
  else if op = 6 then (eX F n (i + 1), 1 + dX F n (i + 1))
  else (eX F n (eX F n (i + 1)), 1 + (if dX F n (i + 1) < dX F n (eX F n (i + 1)) then dX F n (eX F n (i + 1)) else dX F n (i + 1)))
/-- as mM, where an end that does not lie behind its place is taken as 15: then it reads only what lies behind -/
def mM' (op : Int) (F : Nat → mv_V) (n i : Nat) : mv_V := mM op (fun j => if (F j).1 ≤ j then (15, (F j).2) else F j) n i
def ed (tk : List mv_Q) : Nat → mv_V := dr (0, 0) tk.length (fun i F => mM' (mg tk i).1 F tk.length i) tk.length
theorem mM_cg {op : Int} {F G : Nat → mv_V} {n i : Nat} (hn14 : n ≤ 14) (hF : ∀ j, i < j → j < n → (j : Int) < (F j).1) (h : ∀ j, i < j → j < n → F j = G j) : mM op F n i = mM op G n i := by
  have e1 : ∀ j : Int, (i : Int) < j → eX F n j = eX G n j := fun j hj => by
    unfold eX
    split
    · rw [h _ (by omega) (by omega)]
    · rfl
  have e2 : ∀ j : Int, (i : Int) < j → dX F n j = dX G n j := fun j hj => by
    unfold dX
    split
    · rw [h _ (by omega) (by omega)]
    · rfl
  have e3 : (i : Int) < eX G n (i + 1) ∨ n ≤ i := by
    rw [← e1 _ (by omega)]
    unfold eX
    split
    · have := hF (((i : Int) + 1).toNat) (by omega) (by omega)
      omega
    · by_cases hi : n ≤ i
      · exact Or.inr hi
      · exact Or.inl (by omega)
  unfold mM
  by_cases h6 : op < 6
  · rw [if_pos h6, if_pos h6]
  · rw [if_neg h6, if_neg h6, e1 _ (show (i : Int) < i + 1 by omega), e2 _ (show (i : Int) < i + 1 by omega)]
    rcases e3 with e3 | e3
    · rw [e1 _ e3, e2 _ e3]
    · have z1 : ∀ F : Nat → mv_V, eX F n (i + 1) = 15 := fun F => by unfold eX; rw [if_neg (by omega)]
      rw [z1 G]
      have hn : ¬ (15 : Int) < n := by omega
      have z2 : ∀ F : Nat → mv_V, eX F n 15 = 15 := fun F => by unfold eX; rw [if_neg hn]
      have z3 : ∀ F : Nat → mv_V, dX F n 15 = 0 := fun F => by unfold dX; rw [if_neg hn]
      rw [z2 F, z2 G, z3 F, z3 G]
theorem ed_rec' (tk : List mv_Q) (h14 : tk.length ≤ 14) (i : Nat) (hi : i < tk.length) : ed tk i = mM' (mg tk i).1 (ed tk) tk.length i := by
  refine dr_ok (fun i f g h => ?_) tk.length (Nat.le_refl _) i (by omega) hi
  unfold mM'
  refine mM_cg h14 (fun j h1 h2 => ?_) (fun j h1 h2 => by rw [h j h1 h2])
  split
  · show (j : Int) < 15
    omega
  · omega
/-- ends lie behind their places -/
theorem ed_lt (tk : List mv_Q) (h14 : tk.length ≤ 14) : ∀ (m i : Nat), tk.length ≤ i + m → i < tk.length → (i : Int) < (ed tk i).1 ∧ (ed tk i).1 ≤ 15 ∧ 0 ≤ (ed tk i).2 ∧ (ed tk i).2 + i ≤ 14 := by
  intro m
  induction m with
  | zero => intro i h1 h2; omega
  | succ m ih =>
    intro i h1 h2
    have hb : ∀ j, i < j → j < tk.length → (j : Int) < (ed tk j).1 ∧ (ed tk j).1 ≤ 15 ∧ 0 ≤ (ed tk j).2 ∧ (ed tk j).2 + j ≤ 14 := fun j h3 h4 => ih j (by omega) h4
    rw [ed_rec' tk h14 i h2]
    have e : mM' (mg tk i).1 (ed tk) tk.length i = mM (mg tk i).1 (ed tk) tk.length i := by
      unfold mM'
      refine (mM_cg h14 (fun j h3 h4 => (hb j h3 h4).1) (fun j h3 h4 => ?_)).symm
      rw [if_neg (by have := (hb j h3 h4).1; omega)]
    rw [e]
    have hE : ∀ j : Int, (i : Int) < j → (i : Int) < eX (ed tk) tk.length j ∧ eX (ed tk) tk.length j ≤ 15 := fun j hj => by
      unfold eX
      split
      · have := hb j.toNat (by omega) (by omega)
        omega
      · omega
    have hD : ∀ j : Int, (i : Int) < j → 0 ≤ dX (ed tk) tk.length j ∧ dX (ed tk) tk.length j + i + 1 ≤ 14 := fun j hj => by
      unfold dX
      split
      · have := hb j.toNat (by omega) (by omega)
        omega
      · omega
    unfold mM
    have a1 := hE (i + 1) (by omega)
    have a2 := hE (eX (ed tk) tk.length (i + 1)) a1.1
    have b1 := hD (i + 1) (by omega)
    have b2 := hD (eX (ed tk) tk.length (i + 1)) a1.1
    split
    · simp only; omega
    · split
      · simp only; omega
      · simp only
        split <;> omega
theorem ed_in (tk : List mv_Q) (h14 : tk.length ≤ 14) {i : Nat} (hi : i < tk.length) : (i : Int) < (ed tk i).1 ∧ (ed tk i).1 ≤ 15 ∧ 0 ≤ (ed tk i).2 ∧ (ed tk i).2 + i ≤ 14 := ed_lt tk h14 tk.length i (by omega) hi
theorem ed_rec (tk : List mv_Q) (h14 : tk.length ≤ 14) {i : Nat} (hi : i < tk.length) : ed tk i = mM (mg tk i).1 (ed tk) tk.length i := by
  rw [ed_rec' tk h14 i hi]
  unfold mM'
  refine (mM_cg h14 (fun j h3 h4 => (ed_in tk h14 h4).1) (fun j h3 h4 => ?_)).symm
  rw [if_neg (by have := (ed_in tk h14 h4).1; omega)]
abbrev gd (tk : List mv_Q) : Prop := 0 < tk.length ∧ (ed tk 0).1 = tk.length ∧ (ed tk 0).2 ≤ 5
/-- a leaf's truth, of a message q with the number x -/
def lfv (q : mv_Q) (x : Int) (t : mv_Q) : Int :=
  if t.1 = 1 then (if am_and q.2.1 t.2.1 = 0 then 0 else 1)
  else if t.1 = 2 then (if q.2.2 ≤ t.2.1 then 0 else 1)
  else if t.1 = 3 then (if t.2.1 ≤ q.2.2 then 0 else 1)
  else if t.1 = 4 then (if t.2.1 ≤ q.1 ∧ q.1 ≤ t.2.2 then 1 else 0)
  else if t.1 = 5 then (if t.2.1 ≤ x ∧ x ≤ t.2.2 then 1 else 0)
  else 1
def hX (Z : Nat → Int) (n : Nat) (j : Int) : Int := if j < n ∧ ¬ Z j.toNat = 0 then 1 else 0
def mH (t : mv_Q) (lf : mv_Q → Int) (F : Nat → mv_V) (Z : Nat → Int) (n i : Nat) : Int :=
  if t.1 < 6 then lf t
  else if t.1 = 7 then (if hX Z n (i + 1) = 1 ∧ hX Z n (eX F n (i + 1)) = 1 then 1 else 0)
  else if t.1 = 8 then (if hX Z n (i + 1) = 1 ∨ hX Z n (eX F n (i + 1)) = 1 then 1 else 0)
  else (if hX Z n (i + 1) = 1 then 0 else 1)
def tv (tk : List mv_Q) (lf : mv_Q → Int) : Nat → Int := dr 0 tk.length (fun i Z => mH (mg tk i) lf (ed tk) Z tk.length i) tk.length
theorem mH_cg {t : mv_Q} {lf : mv_Q → Int} {F : Nat → mv_V} {Z Y : Nat → Int} {n i : Nat} (hF : ∀ j, i < j → j < n → (j : Int) < (F j).1) (hn : n ≤ 14) (h : ∀ j, i < j → j < n → Z j = Y j) : mH t lf F Z n i = mH t lf F Y n i := by
  have e1 : ∀ j : Int, (i : Int) < j → hX Z n j = hX Y n j := fun j hj => by
    unfold hX
    by_cases hjn : j < n
    · rw [h j.toNat (by omega) (by omega)]
    · rw [if_neg (fun g => hjn g.1), if_neg (fun g => hjn g.1)]
  have e3 : (i : Int) < eX F n (i + 1) ∨ n ≤ i := by
    unfold eX
    split
    · have := hF (((i : Int) + 1).toNat) (by omega) (by omega)
      omega
    · by_cases hi : n ≤ i
      · exact Or.inr hi
      · exact Or.inl (by omega)
  have e4 : hX Z n (eX F n (i + 1)) = hX Y n (eX F n (i + 1)) := by
    rcases e3 with e3 | e3
    · exact e1 _ e3
    · have z : eX F n (i + 1) = 15 := by unfold eX; rw [if_neg (by omega)]
      rw [z]
      unfold hX
      rw [if_neg (fun g => by have := g.1; omega), if_neg (fun g => by have := g.1; omega)]
  unfold mH
  rw [e1 _ (show (i : Int) < i + 1 by omega), e4]
theorem tv_rec (tk : List mv_Q) (lf : mv_Q → Int) (h14 : tk.length ≤ 14) {i : Nat} (hi : i < tk.length) : tv tk lf i = mH (mg tk i) lf (ed tk) (tv tk lf) tk.length i := by
  refine dr_ok (fun i f g h => ?_) tk.length (Nat.le_refl _) i (by omega) hi
  have hF : ∀ j, i < j → j < tk.length → (j : Int) < (ed tk j).1 := fun j _ h2 => (ed_in tk h14 h2).1
  exact mH_cg hF h14 h
theorem hX_01 (Z : Nat → Int) (n : Nat) (j : Int) : hX Z n j = 0 ∨ hX Z n j = 1 := by
  unfold hX
  split
  · exact Or.inr rfl
  · exact Or.inl rfl
theorem lfv_01 (q : mv_Q) (x : Int) (t : mv_Q) : lfv q x t = 0 ∨ lfv q x t = 1 := by
  unfold lfv
  repeat' split
  all_goals first | exact Or.inl rfl | exact Or.inr rfl
-- the cells
def ctA (μ : Nat → Option am_C) (a : Nat) (K : Nat → mv_Q) (F : Nat → mv_V) (Z : Nat → Int) (n : Nat) : Prop :=
  μ a = some (.inl (4, [.inr (some (a + 1)), .inr (some (a + 2)), .inr (some (a + 3)), .inr (some (a + 4)), .inr (some (a + 5)), .inr (some (a + 6)), .inl n])) ∧ μ (a + 1) = some (.inr (.inl (0, 14, fun k => (K k).1))) ∧ μ (a + 2) = some (.inr (.inl (0, 14, fun k => (K k).2.1))) ∧ μ (a + 3) = some (.inr (.inl (0, 14, fun k => (K k).2.2))) ∧ μ (a + 4) = some (.inr (.inl (0, 14, fun k => (F k).1))) ∧ μ (a + 5) = some (.inr (.inl (0, 14, fun k => (F k).2))) ∧ μ (a + 6) = some (.inr (.inl (1, 14, Z)))
theorem ctA.fr {μ μ' : Nat → Option am_C} {a lo hi : Nat} {K : Nat → mv_Q} {F : Nat → mv_V} {Z : Nat → Int} {n : Nat} (h : ctA μ a K F Z n) (hf : fr μ μ' lo hi) (ho : a + 7 ≤ lo ∨ hi ≤ a) : ctA μ' a K F Z n := by
  obtain ⟨h0, h1, h2, h3, h4, h5, h6⟩ := h
  exact ⟨by rw [hf a (by omega)]; exact h0, by rw [hf (a + 1) (by omega)]; exact h1, by rw [hf (a + 2) (by omega)]; exact h2, by rw [hf (a + 3) (by omega)]; exact h3, by rw [hf (a + 4) (by omega)]; exact h4, by rw [hf (a + 5) (by omega)]; exact h5, by rw [hf (a + 6) (by omega)]; exact h6⟩
section Crt
variable {d nn ss a n : Nat} {μ : Nat → Option am_C} {Q : Option am_V → am_M → Prop} {K : Nat → mv_Q} {F : Nat → mv_V} {Z : Nat → Int}
theorem c_C_isOp {M : am_M} {x : Int} (hQ : Q (some (.inl (if 0 ≤ x ∧ x ≤ 8 then 1 else 0))) M) : am_Wp mv_P (d + 1) jC_isOp [.inl x] M Q := by
  refine am_wp pC_isOp (Nat.le_of_ble_eq_true rfl) ?_
  refine x_iload rfl rfl ?_
  refine x_if_lt rfl (fun hc => ?_) (fun hc => ?_)
  · refine x_const rfl ?_
    refine x_zret rfl (by first | exact Or.inl rfl | exact Or.inr rfl | assumption | omega) ?_
    rw [if_neg (by omega)] at hQ
    exact hQ
  · refine x_iload rfl rfl ?_
    refine x_const rfl ?_
    refine x_icmp_gt rfl (fun hc => ?_) (fun hc => ?_)
    · refine x_const rfl ?_
      refine x_zret rfl (by first | exact Or.inl rfl | exact Or.inr rfl | assumption | omega) ?_
      rw [if_neg (by omega)] at hQ
      exact hQ
    · refine x_const rfl ?_
      refine x_goto rfl ?_
      refine x_zret rfl (by first | exact Or.inl rfl | exact Or.inr rfl | assumption | omega) ?_
      rw [if_pos (by omega)] at hQ
      exact hQ
theorem c_C_tokenCount (h : ctA μ a K F Z n) (hQ : Q (some (.inl n)) (nn, ss, μ)) : am_Wp mv_P (d + 1) jC_tokenCount [.inr (some a)] (nn, ss, μ) Q := by
  obtain ⟨h0, h1, h2, h3, h4, h5, h6⟩ := h
  refine am_wp pC_tokenCount (Nat.le_of_ble_eq_true rfl) ?_
  refine x_aload rfl rfl ?_
  refine x_get rfl (by assumption) rfl ?_
  refine x_iret rfl ?_
  exact hQ
theorem c_C_isFull (h : ctA μ a K F Z n) (hQ : Q (some (.inl (if 14 ≤ n then 1 else 0))) (nn, ss, μ)) : am_Wp mv_P (d + 1) jC_isFull [.inr (some a)] (nn, ss, μ) Q := by
  obtain ⟨h0, h1, h2, h3, h4, h5, h6⟩ := h
  refine am_wp pC_isFull (Nat.le_of_ble_eq_true rfl) ?_
  refine x_aload rfl rfl ?_
  refine x_get rfl (by assumption) rfl ?_
  refine x_const rfl ?_
  refine x_icmp_lt rfl (fun hc => ?_) (fun hc => ?_)
  · refine x_const rfl ?_
    refine x_zret rfl (by first | exact Or.inl rfl | exact Or.inr rfl | assumption | omega) ?_
    rw [if_neg (by omega)] at hQ
    exact hQ
  · refine x_const rfl ?_
    refine x_goto rfl ?_
    refine x_zret rfl (by first | exact Or.inl rfl | exact Or.inr rfl | assumption | omega) ?_
    rw [if_pos (by omega)] at hQ
    exact hQ
theorem c_C_wipe (h : ctA μ a K F Z n) (hQ : ∀ μ', ctA μ' a K F Z 0 → fr μ μ' a (a + 7) → Q none (nn, ss, μ')) : am_Wp mv_P (d + 1) jC_wipe [.inr (some a)] (nn, ss, μ) Q := by
  obtain ⟨h0, h1, h2, h3, h4, h5, h6⟩ := h
  refine am_wp pC_wipe (Nat.le_of_ble_eq_true rfl) ?_
  refine x_aload rfl rfl ?_
  refine x_const rfl ?_
  refine x_putG rfl (by assumption) (Nat.le_of_ble_eq_true rfl) rfl ?_
  intro μ1 n1 o1
  refine x_vret rfl ?_
  exact hQ μ1 ⟨n1, (o1 _ (by omega)).trans h1, (o1 _ (by omega)).trans h2, (o1 _ (by omega)).trans h3, (o1 _ (by omega)).trans h4, (o1 _ (by omega)).trans h5, (o1 _ (by omega)).trans h6⟩ (fr.one o1 (by omega) (by omega))
theorem c_C_write {x y z : Int} (h : ctA μ a K F Z n) (hn : n < 14) (hQ : ∀ μ', ctA μ' a (am_fu K n (x, y, z)) F Z (n + 1) → fr μ μ' a (a + 7) → Q none (nn, ss, μ')) : am_Wp mv_P (d + 1) jC_write [.inr (some a), .inl x, .inl y, .inl z] (nn, ss, μ) Q := by
  obtain ⟨h0, h1, h2, h3, h4, h5, h6⟩ := h
  refine am_wp pC_write (Nat.le_of_ble_eq_true rfl) ?_
  refine x_aload rfl rfl ?_
  refine x_get rfl (by assumption) rfl ?_
  refine x_aload rfl rfl ?_
  refine x_get rfl (by assumption) rfl ?_
  refine x_iload rfl rfl ?_
  refine x_iastN (j := n) rfl (by assumption) (by omega) (by omega) rfl ?_
  intro μ1 n1 o1
  have h0 := (o1 a (by omega)).trans h0
  have h2 := (o1 (a + 2) (by omega)).trans h2
  have h3 := (o1 (a + 3) (by omega)).trans h3
  refine x_aload rfl rfl ?_
  refine x_get rfl (by assumption) rfl ?_
  refine x_aload rfl rfl ?_
  refine x_get rfl (by assumption) rfl ?_
  refine x_iload rfl rfl ?_
  refine x_iastN (j := n) rfl (by assumption) (by omega) (by omega) rfl ?_
  intro μ2 n2 o2
  have h0 := (o2 a (by omega)).trans h0
  have n1 := (o2 (a + 1) (by omega)).trans n1
  have h3 := (o2 (a + 3) (by omega)).trans h3
  refine x_aload rfl rfl ?_
  refine x_get rfl (by assumption) rfl ?_
  refine x_aload rfl rfl ?_
  refine x_get rfl (by assumption) rfl ?_
  refine x_iload rfl rfl ?_
  refine x_iastN (j := n) rfl (by assumption) (by omega) (by omega) rfl ?_
  intro μ3 n3 o3
  have h0 := (o3 a (by omega)).trans h0
  have n1 := (o3 (a + 1) (by omega)).trans n1
  have n2 := (o3 (a + 2) (by omega)).trans n2
  refine x_aload rfl rfl ?_
  refine x_dup rfl ?_
  refine x_get rfl (by assumption) rfl ?_
  refine x_const rfl ?_
  refine x_iadd rfl ⟨by omega, by omega⟩ ?_
  refine x_putG rfl (by assumption) (Nat.le_of_ble_eq_true rfl) rfl ?_
  intro μ4 n4 o4
  have n1 := (o4 (a + 1) (by omega)).trans n1
  have n2 := (o4 (a + 2) (by omega)).trans n2
  have n3 := (o4 (a + 3) (by omega)).trans n3
  rw [mv_fu1 K n (x, y, z)] at n1
  rw [mv_fu2 K n (x, y, z)] at n2
  rw [mv_fu3 K n (x, y, z)] at n3
  refine x_vret rfl ?_
  have key : ∀ w, w ≠ a → w ≠ a + 1 → w ≠ a + 2 → w ≠ a + 3 → μ4 w = μ w := fun w q0 q1 q2 q3 => by rw [o4 w q0, o3 w q3, o2 w q2, o1 w q1]
  exact hQ μ4 ⟨n4, n1, n2, n3, (key _ (by omega) (by omega) (by omega) (by omega)).trans h4, (key _ (by omega) (by omega) (by omega) (by omega)).trans h5, (key _ (by omega) (by omega) (by omega) (by omega)).trans h6⟩ (fun w hw => key w (by omega) (by omega) (by omega) (by omega))
theorem c_C_endFrom {j : Int} (h : ctA μ a K F Z n) (hn : n ≤ 14) (hj : 0 ≤ j) (hQ : Q (some (.inl (eX F n j))) (nn, ss, μ)) : am_Wp mv_P (d + 1) jC_endFrom [.inr (some a), .inl j] (nn, ss, μ) Q := by
  obtain ⟨h0, h1, h2, h3, h4, h5, h6⟩ := h
  refine am_wp pC_endFrom (Nat.le_of_ble_eq_true rfl) ?_
  unfold eX at hQ
  refine x_iload rfl rfl ?_
  refine x_aload rfl rfl ?_
  refine x_get rfl (by assumption) rfl ?_
  refine x_icmp_ge rfl (fun hc => ?_) (fun hc => ?_)
  · refine x_const rfl ?_
    refine x_iret rfl ?_
    rw [if_neg (by omega)] at hQ
    exact hQ
  · refine x_aload rfl rfl ?_
    refine x_get rfl (by assumption) rfl ?_
    refine x_iload rfl rfl ?_
    refine x_ialdN (j := j.toNat) rfl (by assumption) (by omega) (by omega) ?_
    refine x_goto rfl ?_
    refine x_iret rfl ?_
    rw [if_pos (by omega)] at hQ
    exact hQ
theorem c_C_depthFrom {j : Int} (h : ctA μ a K F Z n) (hn : n ≤ 14) (hj : 0 ≤ j) (hQ : Q (some (.inl (dX F n j))) (nn, ss, μ)) : am_Wp mv_P (d + 1) jC_depthFrom [.inr (some a), .inl j] (nn, ss, μ) Q := by
  obtain ⟨h0, h1, h2, h3, h4, h5, h6⟩ := h
  refine am_wp pC_depthFrom (Nat.le_of_ble_eq_true rfl) ?_
  unfold dX at hQ
  refine x_iload rfl rfl ?_
  refine x_aload rfl rfl ?_
  refine x_get rfl (by assumption) rfl ?_
  refine x_icmp_ge rfl (fun hc => ?_) (fun hc => ?_)
  · refine x_const rfl ?_
    refine x_iret rfl ?_
    rw [if_neg (by omega)] at hQ
    exact hQ
  · refine x_aload rfl rfl ?_
    refine x_get rfl (by assumption) rfl ?_
    refine x_iload rfl rfl ?_
    refine x_ialdN (j := j.toNat) rfl (by assumption) (by omega) (by omega) ?_
    refine x_goto rfl ?_
    refine x_iret rfl ?_
    rw [if_pos (by omega)] at hQ
    exact hQ
theorem c_C_holdsFrom {j : Int} (h : ctA μ a K F Z n) (hn : n ≤ 14) (hj : 0 ≤ j) (hQ : Q (some (.inl (hX Z n j))) (nn, ss, μ)) : am_Wp mv_P (d + 1) jC_holdsFrom [.inr (some a), .inl j] (nn, ss, μ) Q := by
  obtain ⟨h0, h1, h2, h3, h4, h5, h6⟩ := h
  refine am_wp pC_holdsFrom (Nat.le_of_ble_eq_true rfl) ?_
  unfold hX at hQ
  refine x_iload rfl rfl ?_
  refine x_aload rfl rfl ?_
  refine x_get rfl (by assumption) rfl ?_
  refine x_icmp_ge rfl (fun hc => ?_) (fun hc => ?_)
  · refine x_const rfl ?_
    refine x_zret rfl (by first | exact Or.inl rfl | exact Or.inr rfl | assumption | omega) ?_
    rw [if_neg (by omega)] at hQ
    exact hQ
  · refine x_aload rfl rfl ?_
    refine x_get rfl (by assumption) rfl ?_
    refine x_iload rfl rfl ?_
    refine x_ialdN (j := j.toNat) rfl (by assumption) (by omega) (by omega) ?_
    refine x_if_eq rfl (fun hc => ?_) (fun hc => ?_)
    · refine x_const rfl ?_
      refine x_zret rfl (by first | exact Or.inl rfl | exact Or.inr rfl | assumption | omega) ?_
      rw [if_neg (fun g => g.2 hc)] at hQ
      exact hQ
    · refine x_const rfl ?_
      refine x_goto rfl ?_
      refine x_zret rfl (by first | exact Or.inl rfl | exact Or.inr rfl | assumption | omega) ?_
      rw [if_pos ⟨by omega, hc⟩] at hQ
      exact hQ
theorem c_C_joinHolds {i : Nat} (lf : mv_Q → Int) (h : ctA μ a K F Z n) (hn : n ≤ 14) (hi : i < n) (h6 : 6 ≤ (K i).1) (hF : ∀ j, i < j → j < n → 0 ≤ (F j).1) (hQ : Q (some (.inl (mH (K i) lf F Z n i))) (nn, ss, μ)) : am_Wp mv_P (d + 2) jC_joinHolds [.inr (some a), .inl i] (nn, ss, μ) Q := by
  have h' := h
  obtain ⟨h0, h1, -⟩ := h
  have he : 0 ≤ eX F n ((i : Int) + 1) := by
    unfold eX
    split
    · exact hF _ (by omega) (by omega)
    · omega
  refine am_wp pC_joinHolds (Nat.le_of_ble_eq_true rfl) ?_
  refine x_aload rfl rfl ?_
  refine x_iload rfl rfl ?_
  refine x_const rfl ?_
  refine x_iadd rfl ⟨by omega, by omega⟩ ?_
  refine x_callV1 rfl (by assumption) (Nat.le_of_ble_eq_true rfl) ?_
  refine c_C_holdsFrom h' hn (by omega) ?_
  refine x_istore rfl (Nat.le_of_ble_eq_true rfl) ?_
  refine x_aload rfl rfl ?_
  refine x_aload rfl rfl ?_
  refine x_iload rfl rfl ?_
  refine x_const rfl ?_
  refine x_iadd rfl ⟨by omega, by omega⟩ ?_
  refine x_callV1 rfl (by assumption) (Nat.le_of_ble_eq_true rfl) ?_
  refine c_C_endFrom h' hn (by omega) ?_
  refine x_callV1 rfl (by assumption) (Nat.le_of_ble_eq_true rfl) ?_
  refine c_C_holdsFrom h' hn he ?_
  refine x_istore rfl (Nat.le_of_ble_eq_true rfl) ?_
  refine x_aload rfl rfl ?_
  refine x_get rfl (by assumption) rfl ?_
  refine x_iload rfl rfl ?_
  refine x_ialdN (j := i) rfl (by assumption) (by omega) (by omega) ?_
  refine x_lsw rfl ?_
  unfold mH at hQ
  rw [if_neg (show ¬ (K i).1 < 6 by omega)] at hQ
  have q1 := hX_01 Z n ((i : Int) + 1)
  have q2 := hX_01 Z n (eX F n ((i : Int) + 1))
  generalize hX Z n ((i : Int) + 1) = p at *
  generalize hX Z n (eX F n ((i : Int) + 1)) = q at *
  by_cases h7 : (K i).1 = 7
  · rw [h7]
    rw [if_pos h7] at hQ
    show am_Ex mv_P (d + 1) (am_at kC_joinHolds) (52, _, _, _) Q
    refine x_iload rfl rfl ?_
    refine x_if_eq rfl (fun hc => ?_) (fun hc => ?_)
    · refine x_const rfl ?_
      refine x_zret rfl (by first | exact Or.inl rfl | exact Or.inr rfl | assumption | omega) ?_
      rw [if_neg (by omega)] at hQ
      exact hQ
    · refine x_iload rfl rfl ?_
      refine x_if_eq rfl (fun hc => ?_) (fun hc => ?_)
      · refine x_const rfl ?_
        refine x_zret rfl (by first | exact Or.inl rfl | exact Or.inr rfl | assumption | omega) ?_
        rw [if_neg (by omega)] at hQ
        exact hQ
      · refine x_const rfl ?_
        refine x_goto rfl ?_
        refine x_zret rfl (by first | exact Or.inl rfl | exact Or.inr rfl | assumption | omega) ?_
        rw [if_pos (by omega)] at hQ
        exact hQ
  · rw [if_neg h7] at hQ
    by_cases h8 : (K i).1 = 8
    · rw [h8]
      rw [if_pos h8] at hQ
      show am_Ex mv_P (d + 1) (am_at kC_joinHolds) (66, _, _, _) Q
      refine x_iload rfl rfl ?_
      refine x_if_ne rfl (fun hc => ?_) (fun hc => ?_)
      · refine x_const rfl ?_
        refine x_goto rfl ?_
        refine x_zret rfl (by first | exact Or.inl rfl | exact Or.inr rfl | assumption | omega) ?_
        rw [if_pos (by omega)] at hQ
        exact hQ
      · refine x_iload rfl rfl ?_
        refine x_if_eq rfl (fun hc => ?_) (fun hc => ?_)
        · refine x_const rfl ?_
          refine x_zret rfl (by first | exact Or.inl rfl | exact Or.inr rfl | assumption | omega) ?_
          rw [if_neg (by omega)] at hQ
          exact hQ
        · refine x_const rfl ?_
          refine x_goto rfl ?_
          refine x_zret rfl (by first | exact Or.inl rfl | exact Or.inr rfl | assumption | omega) ?_
          rw [if_pos (by omega)] at hQ
          exact hQ
    · rw [if_neg h8] at hQ
      have e : am_lk [(7, 52), (8, 66)] 80 (K i).1 = 80 := by
        unfold am_lk
        rw [if_neg h7]
        unfold am_lk
        rw [if_neg h8]
        rfl
      rw [e]
      refine x_iload rfl rfl ?_
      refine x_if_ne rfl (fun hc => ?_) (fun hc => ?_)
      · refine x_const rfl ?_
        refine x_zret rfl (by first | exact Or.inl rfl | exact Or.inr rfl | assumption | omega) ?_
        rw [if_pos (by omega)] at hQ
        exact hQ
      · refine x_const rfl ?_
        refine x_goto rfl ?_
        refine x_zret rfl (by first | exact Or.inl rfl | exact Or.inr rfl | assumption | omega) ?_
        rw [if_neg (by omega)] at hQ
        exact hQ
theorem ctA.setE {μ' : Nat → Option am_C} {i : Nat} {e : Int} (h : ctA μ a K F Z n) (hn : μ' (a + 4) = some (.inr (.inl (0, 14, am_fu (fun k => (F k).1) i e)))) (ho : ∀ x, x ≠ a + 4 → μ' x = μ x) : ctA μ' a K (am_fu F i (e, (F i).2)) Z n := by
  obtain ⟨h0, h1, h2, h3, h4, h5, h6⟩ := h
  rw [am_fu_p (fun q : mv_V => q.1) F i (e, (F i).2)] at hn
  have e2 : (fun j => (am_fu F i (e, (F i).2) j).2) = fun j => (F j).2 := by
    funext j
    by_cases hj : j = i <;> simp [am_fu, hj]
  exact ⟨(ho _ (by omega)).trans h0, (ho _ (by omega)).trans h1, (ho _ (by omega)).trans h2, (ho _ (by omega)).trans h3, hn, by rw [e2]; exact (ho _ (by omega)).trans h5, (ho _ (by omega)).trans h6⟩
theorem ctA.setD {μ' : Nat → Option am_C} {i : Nat} {e x : Int} (h : ctA μ a K (am_fu F i (e, (F i).2)) Z n) (hn : μ' (a + 5) = some (.inr (.inl (0, 14, am_fu (fun k => (am_fu F i (e, (F i).2) k).2) i x)))) (ho : ∀ x, x ≠ a + 5 → μ' x = μ x) : ctA μ' a K (am_fu F i (e, x)) Z n := by
  obtain ⟨h0, h1, h2, h3, h4, h5, h6⟩ := h
  have e1 : (fun j => (am_fu F i (e, (F i).2) j).1) = fun j => (am_fu F i (e, x) j).1 := by
    funext j
    by_cases hj : j = i <;> simp [am_fu, hj]
  have e2 : am_fu (fun k => (am_fu F i (e, (F i).2) k).2) i x = fun j => (am_fu F i (e, x) j).2 := by
    funext j
    by_cases hj : j = i <;> simp [am_fu, hj]
  rw [e1] at h4
  rw [e2] at hn
  exact ⟨(ho _ (by omega)).trans h0, (ho _ (by omega)).trans h1, (ho _ (by omega)).trans h2, (ho _ (by omega)).trans h3, (ho _ (by omega)).trans h4, hn, (ho _ (by omega)).trans h6⟩
theorem dX_fu {i : Nat} {q : mv_V} {j : Int} (h : (i : Int) < j) : dX (am_fu F i q) n j = dX F n j := by
  unfold dX
  split
  · rw [am_fu_n (by omega)]
  · rfl
theorem c_C_measure {i : Nat} (h : ctA μ a K F Z n) (hn : n ≤ 14) (hi : i < n) (hF : ∀ j, i < j → j < n → (j : Int) < (F j).1 ∧ 0 ≤ (F j).2 ∧ (F j).2 ≤ 100) (hQ : ∀ μ', ctA μ' a K (am_fu F i (mM (K i).1 F n i)) Z n → fr μ μ' a (a + 7) → Q none (nn, ss, μ')) : am_Wp mv_P (d + 2) jC_measure [.inr (some a), .inl i] (nn, ss, μ) Q := by
  have h' := h
  obtain ⟨h0, h1, h2, h3, h4, h5, h6⟩ := h
  have he : (i : Int) < eX F n ((i : Int) + 1) := by
    unfold eX
    split
    · have := (hF (((i : Int) + 1).toNat) (by omega) (by omega)).1
      omega
    · omega
  have hdb : ∀ j : Int, (i : Int) < j → 0 ≤ dX F n j ∧ dX F n j ≤ 100 := fun j hj => by
    unfold dX
    split
    · exact (hF _ (by omega) (by omega)).2
    · omega
  refine am_wp pC_measure (Nat.le_of_ble_eq_true rfl) ?_
  refine x_iload rfl rfl ?_
  refine x_const rfl ?_
  refine x_iadd rfl ⟨by omega, by omega⟩ ?_
  refine x_istore rfl (Nat.le_of_ble_eq_true rfl) ?_
  refine x_aload rfl rfl ?_
  refine x_iload rfl rfl ?_
  refine x_callV1 rfl (by assumption) (Nat.le_of_ble_eq_true rfl) ?_
  refine c_C_endFrom h' hn (by omega) ?_
  refine x_istore rfl (Nat.le_of_ble_eq_true rfl) ?_
  refine x_aload rfl rfl ?_
  refine x_get rfl (by assumption) rfl ?_
  refine x_iload rfl rfl ?_
  refine x_ialdN (j := i) rfl (by assumption) (by omega) (by omega) ?_
  refine x_const rfl ?_
  refine x_icmp_ge rfl (fun hc => ?_) (fun hc => ?_)
  · have hn6 : ¬ (K i).1 < 6 := by omega
    refine x_aload rfl rfl ?_
    refine x_get rfl (by assumption) rfl ?_
    refine x_iload rfl rfl ?_
    refine x_ialdN (j := i) rfl (by assumption) (by omega) (by omega) ?_
    refine x_const rfl ?_
    refine x_icmp_ne rfl (fun hc => ?_) (fun hc => ?_)
    · have hc' : ¬ (K i).1 = 6 := hc
      have em : mM (K i).1 F n i = (eX F n (eX F n (i + 1)), 1 + (if dX F n (i + 1) < dX F n (eX F n (i + 1)) then dX F n (eX F n (i + 1)) else dX F n (i + 1))) := by
        unfold mM
        rw [if_neg hn6, if_neg hc']
      refine x_aload rfl rfl ?_
      refine x_get rfl (by assumption) rfl ?_
      refine x_iload rfl rfl ?_
      refine x_aload rfl rfl ?_
      refine x_iload rfl rfl ?_
      refine x_callV1 rfl (by assumption) (Nat.le_of_ble_eq_true rfl) ?_
      refine c_C_endFrom h' hn (by omega) ?_
      refine x_iastN (j := i) rfl (by assumption) (by omega) (by omega) rfl ?_
      intro μ1 n1 o1
      have g1 := h'.setE n1 o1
      have g1' := g1
      obtain ⟨k0, k1, k2, k3, k4, k5, k6⟩ := g1
      refine x_aload rfl rfl ?_
      refine x_get rfl (by assumption) rfl ?_
      refine x_iload rfl rfl ?_
      refine x_const rfl ?_
      refine x_aload rfl rfl ?_
      refine x_iload rfl rfl ?_
      refine x_callV1 rfl (by assumption) (Nat.le_of_ble_eq_true rfl) ?_
      refine c_C_depthFrom g1' hn (by omega) ?_
      rw [dX_fu (by omega)]
      refine x_aload rfl rfl ?_
      refine x_iload rfl rfl ?_
      refine x_callV1 rfl (by assumption) (Nat.le_of_ble_eq_true rfl) ?_
      refine c_C_depthFrom g1' hn (by omega) ?_
      rw [dX_fu he]
      have b1 := hdb (i + 1) (by omega)
      have b2 := hdb _ he
      refine x_call2 rfl (Nat.le_of_ble_eq_true rfl) ?_
      refine am_wmax mv_P0 d ?_
      have b3 : 0 ≤ (if dX F n (i + 1) < dX F n (eX F n (i + 1)) then dX F n (eX F n (i + 1)) else dX F n (i + 1)) ∧ (if dX F n (i + 1) < dX F n (eX F n (i + 1)) then dX F n (eX F n (i + 1)) else dX F n (i + 1)) ≤ 100 := by
        split <;> assumption
      refine x_iadd rfl ⟨by omega, by omega⟩ ?_
      refine x_iastN (j := i) rfl (by assumption) (by omega) (by omega) rfl ?_
      intro μ2 n2 o2
      refine x_vret rfl ?_
      refine hQ μ2 ?_ ((fr.one o1 (by omega) (by omega)).tr (fr.one o2 (by omega) (by omega)))
      rw [em]
      exact g1'.setD n2 o2
    · have hc' : (K i).1 = 6 := Classical.not_not.mp hc
      have em : mM (K i).1 F n i = (eX F n (i + 1), 1 + dX F n (i + 1)) := by
        unfold mM
        rw [if_neg hn6, if_pos hc']
      refine x_aload rfl rfl ?_
      refine x_get rfl (by assumption) rfl ?_
      refine x_iload rfl rfl ?_
      refine x_iload rfl rfl ?_
      refine x_iastN (j := i) rfl (by assumption) (by omega) (by omega) rfl ?_
      intro μ1 n1 o1
      have g1 := h'.setE n1 o1
      have g1' := g1
      obtain ⟨k0, k1, k2, k3, k4, k5, k6⟩ := g1
      refine x_aload rfl rfl ?_
      refine x_get rfl (by assumption) rfl ?_
      refine x_iload rfl rfl ?_
      refine x_const rfl ?_
      refine x_aload rfl rfl ?_
      refine x_iload rfl rfl ?_
      refine x_callV1 rfl (by assumption) (Nat.le_of_ble_eq_true rfl) ?_
      refine c_C_depthFrom g1' hn (by omega) ?_
      rw [dX_fu (by omega)]
      have b1 := hdb (i + 1) (by omega)
      refine x_iadd rfl ⟨by omega, by omega⟩ ?_
      refine x_iastN (j := i) rfl (by assumption) (by omega) (by omega) rfl ?_
      intro μ2 n2 o2
      refine x_goto rfl ?_
      refine x_vret rfl ?_
      refine hQ μ2 ?_ ((fr.one o1 (by omega) (by omega)).tr (fr.one o2 (by omega) (by omega)))
      rw [em]
      exact g1'.setD n2 o2
  · have em : mM (K i).1 F n i = ((i : Int) + 1, 0) := by
      unfold mM
      rw [if_pos (by omega)]
    refine x_aload rfl rfl ?_
    refine x_get rfl (by assumption) rfl ?_
    refine x_iload rfl rfl ?_
    refine x_iload rfl rfl ?_
    refine x_iastN (j := i) rfl (by assumption) (by omega) (by omega) rfl ?_
    intro μ1 n1 o1
    have g1 := h'.setE n1 o1
    have g1' := g1
    obtain ⟨k0, k1, k2, k3, k4, k5, k6⟩ := g1
    refine x_aload rfl rfl ?_
    refine x_get rfl (by assumption) rfl ?_
    refine x_iload rfl rfl ?_
    refine x_const rfl ?_
    refine x_iastN (j := i) rfl (by assumption) (by omega) (by omega) rfl ?_
    intro μ2 n2 o2
    refine x_goto rfl ?_
    refine x_vret rfl ?_
    refine hQ μ2 ?_ ((fr.one o1 (by omega) (by omega)).tr (fr.one o2 (by omega) (by omega)))
    rw [em]
    exact g1'.setD n2 o2
end Crt
section Crt2
variable {d nn ss a : Nat} {μ : Nat → Option am_C} {Q : Option am_V → am_M → Prop} {K : Nat → mv_Q} {F : Nat → mv_V} {Z : Nat → Int} {tk : List mv_Q}
theorem c_C_isGood (h : ctA μ a K F Z tk.length) (h14 : tk.length ≤ 14) (hK : ∀ k, k < tk.length → K k = mg tk k) (h1 : ∀ μ' F', ctA μ' a K F' Z tk.length → (∀ k, k < tk.length → F' k = ed tk k) → gd tk → fr μ μ' a (a + 7) → Q (some (.inl 1)) (nn, ss, μ')) (h0 : ∀ μ' F', ctA μ' a K F' Z tk.length → ¬ gd tk → fr μ μ' a (a + 7) → Q (some (.inl 0)) (nn, ss, μ')) : am_Wp mv_P (d + 3) jC_isGood [.inr (some a)] (nn, ss, μ) Q := by
  have loop : ∀ (m : Nat) (μ' : Nat → Option am_C) (F' : Nat → mv_V), m ≤ tk.length → ctA μ' a K F' Z tk.length → (∀ k, m ≤ k → k < tk.length → F' k = ed tk k) → fr μ μ' a (a + 7) → am_Ex mv_P (d + 2) (am_at kC_isGood) (7, [some (.inr (some a)), some (.inl ((m : Int) - 1))], [], nn, ss, μ') Q := by
    intro m
    induction m with
    | zero =>
      intro μ' F' hm hc0 hF hf
      have hc0' := hc0
      obtain ⟨g0, g1, g2, g3, g4, g5, g6⟩ := hc0
      refine x_iload rfl rfl ?_
      refine x_if_lt rfl (fun hc => ?_) (fun hc => ?_)
      · refine x_aload rfl rfl ?_
        refine x_get rfl (by assumption) rfl ?_
        refine x_if_le rfl (fun hc => ?_) (fun hc => ?_)
        · refine x_const rfl ?_
          refine x_zret rfl (by first | exact Or.inl rfl | exact Or.inr rfl | assumption | omega) ?_
          exact h0 μ' F' hc0' (fun g => by have := g.1; omega) hf
        · have hpos : 0 < tk.length := by omega
          refine x_aload rfl rfl ?_
          refine x_get rfl (by assumption) rfl ?_
          refine x_const rfl ?_
          refine x_ialdN (j := 0) rfl (by assumption) (by omega) (by omega) ?_
          refine x_aload rfl rfl ?_
          refine x_get rfl (by assumption) rfl ?_
          refine x_icmp_ne rfl (fun hc => ?_) (fun hc => ?_)
          · refine x_const rfl ?_
            refine x_zret rfl (by first | exact Or.inl rfl | exact Or.inr rfl | assumption | omega) ?_
            exact h0 μ' F' hc0' (fun g => hc (by rw [hF 0 (by omega) hpos]; exact g.2.1)) hf
          · have q1 : (F' 0).1 = tk.length := Classical.not_not.mp hc
            refine x_aload rfl rfl ?_
            refine x_get rfl (by assumption) rfl ?_
            refine x_const rfl ?_
            refine x_ialdN (j := 0) rfl (by assumption) (by omega) (by omega) ?_
            refine x_const rfl ?_
            refine x_icmp_gt rfl (fun hc => ?_) (fun hc => ?_)
            · refine x_const rfl ?_
              refine x_zret rfl (by first | exact Or.inl rfl | exact Or.inr rfl | assumption | omega) ?_
              exact h0 μ' F' hc0' (fun g => by have := g.2.2; rw [hF 0 (by omega) hpos] at hc; omega) hf
            · refine x_const rfl ?_
              refine x_goto rfl ?_
              refine x_zret rfl (by first | exact Or.inl rfl | exact Or.inr rfl | assumption | omega) ?_
              rw [hF 0 (by omega) hpos] at q1 hc
              exact h1 μ' F' hc0' (fun k hk => hF k (by omega) hk) ⟨hpos, q1, by omega⟩ hf
      · exact absurd hc (by omega)
    | succ m ih =>
      intro μ' F' hm hc0 hF hf
      have hc0' := hc0
      obtain ⟨g0, g1, g2, g3, g4, g5, g6⟩ := hc0
      refine x_iload rfl rfl ?_
      refine x_if_lt rfl (fun hc => ?_) (fun hc => ?_)
      · exact absurd hc (by omega)
      · refine x_aload rfl rfl ?_
        refine x_iload rfl rfl ?_
        refine x_callV1 rfl (by assumption) (Nat.le_of_ble_eq_true rfl) ?_
        rw [show ((m + 1 : Nat) : Int) - 1 = (m : Int) by omega]
        have hb : ∀ j, m < j → j < tk.length → (j : Int) < (F' j).1 ∧ 0 ≤ (F' j).2 ∧ (F' j).2 ≤ 100 := fun j hj1 hj2 => by
          rw [hF j (by omega) hj2]
          have := ed_in tk h14 hj2
          omega
        refine c_C_measure hc0' h14 (by omega) hb (fun μ2 hc2 hf2 => ?_)
        refine x_iinc rfl rfl ⟨by omega, by omega⟩ ?_
        refine x_goto rfl ?_
        refine ih μ2 _ (by omega) hc2 (fun k hk1 hk2 => ?_) (hf.tr hf2)
        by_cases hkm : k = m
        · rw [hkm, am_fu_s, hK m (by omega), ed_rec tk h14 (show m < tk.length by omega)]
          exact mM_cg h14 (fun j q1 q2 => (hb j q1 q2).1) (fun j q1 q2 => hF j (by omega) q2)
        · rw [am_fu_n hkm]
          exact hF k (by omega) hk2
  have h' := h
  obtain ⟨g0, -⟩ := h
  refine am_wp pC_isGood (Nat.le_of_ble_eq_true rfl) ?_
  refine x_aload rfl rfl ?_
  refine x_get rfl (by assumption) rfl ?_
  refine x_const rfl ?_
  refine x_isub rfl ⟨by omega, by omega⟩ ?_
  refine x_istore rfl (Nat.le_of_ble_eq_true rfl) ?_
  exact loop tk.length μ F (Nat.le_refl _) h' (fun k q1 q2 => by omega) fr.rf
theorem c_C_leafHolds {i ab p : Nat} {x vl : Int} {b : mv_B} (h : ctA μ a K F Z tk.length) (h14 : tk.length ≤ 14) (hi : i < tk.length) (h6 : 0 ≤ (K i).1 ∧ (K i).1 < 6) (hb : bx μ ab b vl) (hp : p < b.1.length) (hQ : Q (some (.inl (lfv (mg b.1 p) x (K i)))) (nn, ss, μ)) : am_Wp mv_P (d + 2) jC_leafHolds [.inr (some a), .inl i, .inr (some ab), .inl p, .inl x] (nn, ss, μ) Q := by
  obtain ⟨h0, h1, h2, h3, h4, h5, hz⟩ := h
  obtain ⟨fs, hob⟩ := hb.ob
  refine am_wp pC_leafHolds (Nat.le_of_ble_eq_true rfl) ?_
  refine x_aload rfl rfl ?_
  refine x_get rfl (by assumption) rfl ?_
  refine x_iload rfl rfl ?_
  refine x_ialdN (j := i) rfl (by assumption) (by omega) (by omega) ?_
  refine x_tsw rfl ?_
  unfold lfv at hQ
  rcases (show (K i).1 = 1 ∨ (K i).1 = 2 ∨ (K i).1 = 3 ∨ (K i).1 = 4 ∨ (K i).1 = 5 ∨ (K i).1 = 0 by omega) with e | e | e | e | e | e
  · rw [e]
    rw [if_pos e] at hQ
    show am_Ex mv_P (d + 1) (am_at kC_leafHolds) (40, _, _, _) Q
    refine x_aload rfl rfl ?_
    refine x_iload rfl rfl ?_
    refine x_callV1 rfl (by assumption) (Nat.le_of_ble_eq_true rfl) ?_
    refine d_B_flagsAt hb hp ?_
    refine x_aload rfl rfl ?_
    refine x_get rfl (by assumption) rfl ?_
    refine x_iload rfl rfl ?_
    refine x_ialdN (j := i) rfl (by assumption) (by omega) (by omega) ?_
    refine x_iand rfl ?_
    refine x_if_eq rfl (fun hc => ?_) (fun hc => ?_)
    · refine x_const rfl ?_
      refine x_zret rfl (by first | exact Or.inl rfl | exact Or.inr rfl | assumption | omega) ?_
      rw [if_pos hc] at hQ
      exact hQ
    · refine x_const rfl ?_
      refine x_goto rfl ?_
      refine x_zret rfl (by first | exact Or.inl rfl | exact Or.inr rfl | assumption | omega) ?_
      rw [if_neg hc] at hQ
      exact hQ
  · rw [e]
    rw [if_neg (by omega), if_pos e] at hQ
    show am_Ex mv_P (d + 1) (am_at kC_leafHolds) (61, _, _, _) Q
    refine x_aload rfl rfl ?_
    refine x_iload rfl rfl ?_
    refine x_callV1 rfl (by assumption) (Nat.le_of_ble_eq_true rfl) ?_
    refine d_B_sizeAt hb hp ?_
    refine x_aload rfl rfl ?_
    refine x_get rfl (by assumption) rfl ?_
    refine x_iload rfl rfl ?_
    refine x_ialdN (j := i) rfl (by assumption) (by omega) (by omega) ?_
    refine x_icmp_le rfl (fun hc => ?_) (fun hc => ?_)
    · refine x_const rfl ?_
      refine x_zret rfl (by first | exact Or.inl rfl | exact Or.inr rfl | assumption | omega) ?_
      rw [if_pos hc] at hQ
      exact hQ
    · refine x_const rfl ?_
      refine x_goto rfl ?_
      refine x_zret rfl (by first | exact Or.inl rfl | exact Or.inr rfl | assumption | omega) ?_
      rw [if_neg hc] at hQ
      exact hQ
  · rw [e]
    rw [if_neg (by omega), if_neg (by omega), if_pos e] at hQ
    show am_Ex mv_P (d + 1) (am_at kC_leafHolds) (81, _, _, _) Q
    refine x_aload rfl rfl ?_
    refine x_iload rfl rfl ?_
    refine x_callV1 rfl (by assumption) (Nat.le_of_ble_eq_true rfl) ?_
    refine d_B_sizeAt hb hp ?_
    refine x_aload rfl rfl ?_
    refine x_get rfl (by assumption) rfl ?_
    refine x_iload rfl rfl ?_
    refine x_ialdN (j := i) rfl (by assumption) (by omega) (by omega) ?_
    refine x_icmp_ge rfl (fun hc => ?_) (fun hc => ?_)
    · refine x_const rfl ?_
      refine x_zret rfl (by first | exact Or.inl rfl | exact Or.inr rfl | assumption | omega) ?_
      rw [if_pos hc] at hQ
      exact hQ
    · refine x_const rfl ?_
      refine x_goto rfl ?_
      refine x_zret rfl (by first | exact Or.inl rfl | exact Or.inr rfl | assumption | omega) ?_
      rw [if_neg hc] at hQ
      exact hQ
  · rw [e]
    rw [if_neg (by omega), if_neg (by omega), if_neg (by omega), if_pos e] at hQ
    show am_Ex mv_P (d + 1) (am_at kC_leafHolds) (101, _, _, _) Q
    refine x_aload rfl rfl ?_
    refine x_get rfl (by assumption) rfl ?_
    refine x_iload rfl rfl ?_
    refine x_ialdN (j := i) rfl (by assumption) (by omega) (by omega) ?_
    refine x_aload rfl rfl ?_
    refine x_iload rfl rfl ?_
    refine x_callV1 rfl (by assumption) (Nat.le_of_ble_eq_true rfl) ?_
    refine d_B_uidAt hb hp ?_
    refine x_icmp_gt rfl (fun hc => ?_) (fun hc => ?_)
    · refine x_const rfl ?_
      refine x_zret rfl (by first | exact Or.inl rfl | exact Or.inr rfl | assumption | omega) ?_
      rw [if_neg (by omega)] at hQ
      exact hQ
    · refine x_aload rfl rfl ?_
      refine x_iload rfl rfl ?_
      refine x_callV1 rfl (by assumption) (Nat.le_of_ble_eq_true rfl) ?_
      refine d_B_uidAt hb hp ?_
      refine x_aload rfl rfl ?_
      refine x_get rfl (by assumption) rfl ?_
      refine x_iload rfl rfl ?_
      refine x_ialdN (j := i) rfl (by assumption) (by omega) (by omega) ?_
      refine x_icmp_gt rfl (fun hc => ?_) (fun hc => ?_)
      · refine x_const rfl ?_
        refine x_zret rfl (by first | exact Or.inl rfl | exact Or.inr rfl | assumption | omega) ?_
        rw [if_neg (by omega)] at hQ
        exact hQ
      · refine x_const rfl ?_
        refine x_goto rfl ?_
        refine x_zret rfl (by first | exact Or.inl rfl | exact Or.inr rfl | assumption | omega) ?_
        rw [if_pos (by omega)] at hQ
        exact hQ
  · rw [e]
    rw [if_neg (by omega), if_neg (by omega), if_neg (by omega), if_neg (by omega), if_pos e] at hQ
    show am_Ex mv_P (d + 1) (am_at kC_leafHolds) (135, _, _, _) Q
    refine x_aload rfl rfl ?_
    refine x_get rfl (by assumption) rfl ?_
    refine x_iload rfl rfl ?_
    refine x_ialdN (j := i) rfl (by assumption) (by omega) (by omega) ?_
    refine x_iload rfl rfl ?_
    refine x_icmp_gt rfl (fun hc => ?_) (fun hc => ?_)
    · refine x_const rfl ?_
      refine x_zret rfl (by first | exact Or.inl rfl | exact Or.inr rfl | assumption | omega) ?_
      rw [if_neg (by omega)] at hQ
      exact hQ
    · refine x_iload rfl rfl ?_
      refine x_aload rfl rfl ?_
      refine x_get rfl (by assumption) rfl ?_
      refine x_iload rfl rfl ?_
      refine x_ialdN (j := i) rfl (by assumption) (by omega) (by omega) ?_
      refine x_icmp_gt rfl (fun hc => ?_) (fun hc => ?_)
      · refine x_const rfl ?_
        refine x_zret rfl (by first | exact Or.inl rfl | exact Or.inr rfl | assumption | omega) ?_
        rw [if_neg (by omega)] at hQ
        exact hQ
      · refine x_const rfl ?_
        refine x_goto rfl ?_
        refine x_zret rfl (by first | exact Or.inl rfl | exact Or.inr rfl | assumption | omega) ?_
        rw [if_pos (by omega)] at hQ
        exact hQ
  · rw [e]
    rw [if_neg (by omega), if_neg (by omega), if_neg (by omega), if_neg (by omega), if_neg (by omega)] at hQ
    show am_Ex mv_P (d + 1) (am_at kC_leafHolds) (163, _, _, _) Q
    refine x_const rfl ?_
    refine x_zret rfl (by first | exact Or.inl rfl | exact Or.inr rfl | assumption | omega) ?_
    exact hQ
theorem c_C_isFulfilledBy {ab p : Nat} {x vl : Int} {b : mv_B} (h : ctA μ a K F Z tk.length) (h14 : tk.length ≤ 14) (hpos : 0 < tk.length) (hK : ∀ k, k < tk.length → K k = mg tk k) (hop : ∀ k, k < tk.length → 0 ≤ (mg tk k).1) (hF : ∀ k, k < tk.length → F k = ed tk k) (hb : bx μ ab b vl) (hp : p < b.1.length) (hd : ab + 4 ≤ a ∨ a + 7 ≤ ab) (hQ : ∀ μ' Z', ctA μ' a K F Z' tk.length → fr μ μ' a (a + 7) → Q (some (.inl (if tv tk (lfv (mg b.1 p) x) 0 = 0 then 0 else 1))) (nn, ss, μ')) : am_Wp mv_P (d + 3) jC_isFulfilledBy [.inr (some a), .inr (some ab), .inl p, .inl x] (nn, ss, μ) Q := by
  have loop : ∀ (m : Nat) (μ' : Nat → Option am_C) (Z' : Nat → Int), m ≤ tk.length → ctA μ' a K F Z' tk.length → (∀ k, m ≤ k → k < tk.length → Z' k = tv tk (lfv (mg b.1 p) x) k) → fr μ μ' a (a + 7) → am_Ex mv_P (d + 2) (am_at kC_isFulfilledBy) (8, [some (.inr (some a)), some (.inr (some ab)), some (.inl (p : Int)), some (.inl x), some (.inl ((m : Int) - 1))], [], nn, ss, μ') Q := by
    intro m
    induction m with
    | zero =>
      intro μ' Z' hm hc0 hZ hf
      have hc0' := hc0
      obtain ⟨g0, g1, g2, g3, g4, g5, g6⟩ := hc0
      have hq := hQ μ' Z' hc0' hf
      rw [← hZ 0 (by omega) hpos] at hq
      refine x_iload rfl rfl ?_
      refine x_if_lt rfl (fun hc => ?_) (fun hc => ?_)
      · refine x_aload rfl rfl ?_
        refine x_get rfl (by assumption) rfl ?_
        refine x_if_le rfl (fun hc => ?_) (fun hc => ?_)
        · exact absurd hc (by omega)
        · refine x_aload rfl rfl ?_
          refine x_get rfl (by assumption) rfl ?_
          refine x_const rfl ?_
          refine x_ialdN (j := 0) rfl (by assumption) (by omega) (by omega) ?_
          refine x_if_eq rfl (fun hc => ?_) (fun hc => ?_)
          · refine x_const rfl ?_
            refine x_zret rfl (by first | exact Or.inl rfl | exact Or.inr rfl | assumption | omega) ?_
            rw [if_pos hc] at hq
            exact hq
          · refine x_const rfl ?_
            refine x_goto rfl ?_
            refine x_zret rfl (by first | exact Or.inl rfl | exact Or.inr rfl | assumption | omega) ?_
            rw [if_neg hc] at hq
            exact hq
      · exact absurd hc (by omega)
    | succ m ih =>
      intro μ' Z' hm hc0 hZ hf
      have hc0' := hc0
      obtain ⟨g0, g1, g2, g3, g4, g5, g6⟩ := hc0
      have hb' := hb.fr hf (by omega)
      have em : ((m + 1 : Nat) : Int) - 1 = (m : Int) := by omega
      have fin : ∀ z : Int, z = tv tk (lfv (mg b.1 p) x) m → (z = 0 ∨ z = 1) → am_Ex mv_P (d + 2) (am_at kC_isFulfilledBy) (49, [some (.inr (some a)), some (.inr (some ab)), some (.inl (p : Int)), some (.inl x), some (.inl (m : Int))], [.inl z, .inl (m : Int), .inr (some (a + 6))], nn, ss, μ') Q := by
        intro z hz hz01
        have hfit : am_fit 1 (.inl z) = true := by
          rcases hz01 with rfl | rfl <;> rfl
        refine x_iastN (j := m) rfl (by assumption) (by omega) (by omega) (by assumption) ?_
        intro μ2 n2 o2
        refine x_iinc rfl rfl ⟨by omega, by omega⟩ ?_
        refine x_goto rfl ?_
        refine ih μ2 (am_fu Z' m z) (by omega) ⟨(o2 _ (by omega)).trans g0, (o2 _ (by omega)).trans g1, (o2 _ (by omega)).trans g2, (o2 _ (by omega)).trans g3, (o2 _ (by omega)).trans g4, (o2 _ (by omega)).trans g5, n2⟩ (fun k hk1 hk2 => ?_) (hf.tr (fr.one o2 (by omega) (by omega)))
        by_cases hkm : k = m
        · rw [hkm, am_fu_s]
          exact hz
        · rw [am_fu_n hkm]
          exact hZ k (by omega) hk2
      have erec := tv_rec tk (lfv (mg b.1 p) x) h14 (show m < tk.length by omega)
      have ecg : mH (mg tk m) (lfv (mg b.1 p) x) (ed tk) (tv tk (lfv (mg b.1 p) x)) tk.length m = mH (mg tk m) (lfv (mg b.1 p) x) F Z' tk.length m := by
        have e1 : mH (mg tk m) (lfv (mg b.1 p) x) (ed tk) (tv tk (lfv (mg b.1 p) x)) tk.length m = mH (mg tk m) (lfv (mg b.1 p) x) (ed tk) Z' tk.length m := mH_cg (fun j q1 q2 => (ed_in tk h14 q2).1) h14 (fun j q1 q2 => (hZ j (by omega) q2).symm)
        have e2 : eX (ed tk) tk.length ((m : Int) + 1) = eX F tk.length ((m : Int) + 1) := by
          unfold eX
          split
          · rw [hF _ (by omega)]
          · rfl
        rw [e1]
        unfold mH
        rw [e2]
      have hop := hop m (by omega)
      rw [← hK m (by omega)] at erec ecg hop
      refine x_iload rfl rfl ?_
      refine x_if_lt rfl (fun hc => ?_) (fun hc => ?_)
      · exact absurd hc (by omega)
      · refine x_aload rfl rfl ?_
        refine x_get rfl (by assumption) rfl ?_
        refine x_iload rfl rfl ?_
        refine x_aload rfl rfl ?_
        refine x_get rfl (by assumption) rfl ?_
        refine x_iload rfl rfl ?_
        refine x_ialdN (j := m) rfl (by assumption) (by omega) (by omega) ?_
        refine x_const rfl ?_
        refine x_icmp_ge rfl (fun hc => ?_) (fun hc => ?_)
        · refine x_aload rfl rfl ?_
          refine x_iload rfl rfl ?_
          refine x_callV1 rfl (by assumption) (Nat.le_of_ble_eq_true rfl) ?_
          rw [em]
          refine c_C_joinHolds (lfv (mg b.1 p) x) hc0' h14 (by omega) (by omega) (fun j q1 q2 => by rw [hF j q2]; have := ed_in tk h14 q2; omega) ?_
          refine fin _ (by rw [erec, ecg]) ?_
          unfold mH
          repeat' split
          all_goals first | exact Or.inl rfl | exact Or.inr rfl | exact lfv_01 _ _ _
        · refine x_aload rfl rfl ?_
          refine x_iload rfl rfl ?_
          refine x_aload rfl rfl ?_
          refine x_iload rfl rfl ?_
          refine x_iload rfl rfl ?_
          refine x_callV4 rfl (by assumption) (Nat.le_of_ble_eq_true rfl) ?_
          rw [em]
          refine c_C_leafHolds hc0' h14 (by omega) ⟨hop, by omega⟩ hb' hp ?_
          refine x_goto rfl ?_
          refine fin _ ?_ (lfv_01 _ _ _)
          rw [erec]
          unfold mH
          rw [if_pos (by omega)]
  have h' := h
  obtain ⟨g0, -⟩ := h
  refine am_wp pC_isFulfilledBy (Nat.le_of_ble_eq_true rfl) ?_
  refine x_aload rfl rfl ?_
  refine x_get rfl (by assumption) rfl ?_
  refine x_const rfl ?_
  refine x_isub rfl ⟨by omega, by omega⟩ ?_
  refine x_istore rfl (Nat.le_of_ble_eq_true rfl) ?_
  exact loop tk.length μ Z (Nat.le_refl _) h' (fun k q1 q2 => by omega) fr.rf
end Crt2
