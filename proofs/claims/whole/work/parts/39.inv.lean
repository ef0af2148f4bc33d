/-! what every call keeps -/
def ph (lg : List mv_H) : Nat := lg.length + (rp lg 0).1.length + (rp lg 1).1.length + (rp lg 2).1.length
theorem ap_len {c : mv_H} {b : mv_B} (hv : vc c b) : (c.1 = 1 ∧ (ap c b).1.length = b.1.length + 1) ∨ (c.1 = 2 ∧ (ap c b).1.length + 1 = b.1.length) ∨ (c.1 = 3 ∧ (ap c b).1.length = b.1.length) := by
  unfold ap
  rcases hv with ⟨k1, k2, k3⟩ | ⟨k1 | k1, k2⟩
  · left
    refine ⟨k1, ?_⟩
    rw [if_pos k1, List.length_append]
    rfl
  · right
    left
    refine ⟨k1, ?_⟩
    rw [if_neg (by omega), if_pos k1, er_len k2]
    omega
  · right
    right
    refine ⟨k1, ?_⟩
    rw [if_neg (by omega), if_neg (by omega), List.length_set]
theorem ph_app {lg : List mv_H} {c : mv_H} (hm : 0 ≤ c.2.1 ∧ c.2.1 < 3) (hv : vc c (rp lg c.2.1.toNat)) : ph lg ≤ ph (lg ++ [c]) ∧ ph (lg ++ [c]) ≤ ph lg + 2 ∧ (c.1 = 2 → ph (lg ++ [c]) = ph lg) := by
  have hl := ap_len hv
  unfold ph
  rw [rp_app, List.length_append]
  simp only [List.length_cons, List.length_nil]
  unfold apS
  have hm3 : c.2.1.toNat = 0 ∨ c.2.1.toNat = 1 ∨ c.2.1.toNat = 2 := by omega
  rcases hm3 with e | e | e
  · rw [e] at hl ⊢
    rw [am_fu_s, am_fu_n (by decide), am_fu_n (by decide)]
    omega
  · rw [e] at hl ⊢
    rw [am_fu_s, am_fu_n (by decide), am_fu_n (by decide)]
    omega
  · rw [e] at hl ⊢
    rw [am_fu_s, am_fu_n (by decide), am_fu_n (by decide)]
    omega
theorem take_s {lg : List mv_H} {i : Nat} (h : i < lg.length) : lg.take (i + 1) = lg.take i ++ [hg lg i] := by
  rw [List.take_add_one, List.getElem?_eq_getElem h]
  unfold hg
  rw [List.getD_eq_getElem?_getD, List.getElem?_eq_getElem h]
  rfl
theorem ph_take {lg : List mv_H} (h : lgOk lg) : ∀ (r i : Nat), i + r = lg.length → ph (lg.take i) ≤ ph lg := by
  intro r
  induction r with
  | zero =>
    intro i hi
    rw [List.take_of_length_le (by omega)]
    exact Nat.le_refl _
  | succ r ih =>
    intro i hi
    have h1 := ih (i + 1) (by omega)
    rw [take_s (by omega)] at h1
    have h2 := h i (by omega)
    have h3 := (ph_app h2.1 h2.2).1
    omega
theorem LI_len {lg : List mv_H} : lg.length ≤ ph lg := by
  unfold ph
  omega
theorem LI_pg {m : Nat} (hm : m < 3) : ∀ (r : Nat) (s : List mv_H × Nat) (k c : Nat), LI s.1 s.2 → k + r = (rp s.1 m).1.length → s.1.length + r < 5000 → LI (pg m r s k c).1.1 (pg m r s k c).1.2 ∧ ph (pg m r s k c).1.1 = ph s.1 := by
  intro r
  induction r with
  | zero =>
    intro s k c h hk hl
    exact ⟨h, rfl⟩
  | succ r ih =>
    intro s k c h hk hl
    by_cases hd : am_and (mg (rp s.1 m).1 k).2.1 8 = 0
    · have e : pg m (r + 1) s k c = pg m r s (k + 1) c := by
        show (if _ then _ else _) = _
        rw [if_pos hd]
      rw [e]
      exact ih s (k + 1) c h (by omega) (by omega)
    · have e : pg m (r + 1) s k c = pg m r (nt s (2, m, (mg (rp s.1 m).1 k).1, 0, 0)) k (c + 1) := by
        show (if _ then _ else _) = _
        rw [if_neg hd]
      have hw := h.wb m
      have efp := fp_mg hw.1 (show k < (rp s.1 m).1.length by omega)
      have hvc : vc ((2 : Int), (m : Int), (mg (rp s.1 m).1 k).1, (0 : Int), (0 : Int)) (rp s.1 m) := Or.inr ⟨Or.inl rfl, by simp only [efp]; omega⟩
      have hL := LI_nt (c := ((2 : Int), (m : Int), (mg (rp s.1 m).1 k).1, (0 : Int), (0 : Int))) h (by simp only; omega) hvc (by omega)
      have hP := (ph_app (c := ((2 : Int), (m : Int), (mg (rp s.1 m).1 k).1, (0 : Int), (0 : Int))) (by simp only; omega) hvc).2.2 rfl
      have hl2 := ap_len hvc
      have elen : (rp (s.1 ++ [((2 : Int), (m : Int), (mg (rp s.1 m).1 k).1, (0 : Int), (0 : Int))]) m).1.length + 1 = (rp s.1 m).1.length := by
        rw [rp_app]
        show (am_fu (rp s.1) m (ap ((2 : Int), (m : Int), (mg (rp s.1 m).1 k).1, (0 : Int), (0 : Int)) (rp s.1 m)) m).1.length + 1 = _
        rw [am_fu_s]
        rcases hl2 with ⟨q, -⟩ | ⟨-, q⟩ | ⟨q, -⟩
        · exact absurd q (show ¬ (2 : Int) = 1 by decide)
        · exact q
        · exact absurd q (show ¬ (2 : Int) = 3 by decide)
      rw [e]
      have := ih (nt s ((2 : Int), (m : Int), (mg (rp s.1 m).1 k).1, (0 : Int), (0 : Int))) k (c + 1) hL (by show k + r = (rp (s.1 ++ [((2 : Int), (m : Int), (mg (rp s.1 m).1 k).1, (0 : Int), (0 : Int))]) m).1.length; omega) (by show (s.1 ++ [((2 : Int), (m : Int), (mg (rp s.1 m).1 k).1, (0 : Int), (0 : Int))]).length + r < 5000; rw [List.length_append]; simp only [List.length_cons, List.length_nil]; omega)
      refine ⟨this.1, ?_⟩
      rw [this.2]
      exact hP
/-- what holds behind t calls -/
def INV (t : Nat) (S : mv_T) : Prop := LI S.1.1 S.1.2 ∧ ph S.1.1 ≤ 2 * t ∧ (∀ m, m < 3 → 0 ≤ S.2.1 m ∧ S.2.1 m ≤ (t : Int) + 1) ∧ (∀ s, s < 4 → -1 ≤ (S.2.2.1 s).1 ∧ (S.2.2.1 s).1 < 3) ∧ ∀ k, k < S.2.2.2.1.length → 0 ≤ (mg S.2.2.2.1 k).1 ∧ (mg S.2.2.2.1 k).1 ≤ 8
section Inv
variable {t : Nat} {S : mv_T}
theorem INV.ic (h : INV t S) (ht : t ≤ 512) : IC S ∧ S.1.1.length < 1500 := by
  obtain ⟨h1, h2, h3, h4, h5⟩ := h
  have := LI_len (lg := S.1.1)
  refine ⟨⟨h1, by omega, fun m hm => ?_, h4, fun k hk => (h5 k hk).1⟩, by omega⟩
  have := h3 m hm
  omega
theorem INV.up (h : INV t S) : INV (t + 1) S := by
  obtain ⟨h1, h2, h3, h4, h5⟩ := h
  exact ⟨h1, by omega, fun m hm => by have := h3 m hm; omega, h4, h5⟩
theorem INV.se {s : Nat} {x : mv_S} (h : INV t S) (hx : -1 ≤ x.1 ∧ x.1 < 3) : INV t (setS S s x) := by
  obtain ⟨h1, h2, h3, h4, h5⟩ := h
  refine ⟨h1, h2, h3, fun j hj => ?_, h5⟩
  show -1 ≤ (am_fu S.2.2.1 s x j).1 ∧ (am_fu S.2.2.1 s x j).1 < 3
  by_cases hjs : j = s
  · rw [hjs, am_fu_s]
    exact hx
  · rw [am_fu_n hjs]
    exact h4 j hj
theorem INV.ntc {c : mv_H} (h : INV t S) (ht : t ≤ 512) (hm : 0 ≤ c.2.1 ∧ c.2.1 < 3) (hv : vc c (rp S.1.1 c.2.1.toNat)) : INV (t + 1) (nt S.1 c, S.2) := by
  obtain ⟨h1, h2, h3, h4, h5⟩ := h
  have := LI_len (lg := S.1.1)
  have hp := ph_app hm hv
  refine ⟨LI_nt (lg := S.1.1) (du := S.1.2) h1 hm hv (by omega), ?_, fun m hm => by have := h3 m hm; simp only; omega, h4, h5⟩
  show ph (S.1.1 ++ [c]) ≤ 2 * (t + 1)
  omega
theorem INV.pur {m : Nat} (h : INV t S) (ht : t ≤ 512) (hm : m < 3) : INV t ((pgS S m).1, S.2) := by
  obtain ⟨h1, h2, h3, h4, h5⟩ := h
  have := LI_len (lg := S.1.1)
  have h12 := (h1.wb m).2.1
  have hp := LI_pg hm (rp S.1.1 m).1.length S.1 0 0 h1 (by omega) (by omega)
  refine ⟨hp.1, ?_, h3, h4, h5⟩
  show ph (pg m (rp S.1.1 m).1.length S.1 0 0).1.1 ≤ _
  rw [hp.2]
  exact h2
theorem INV.kt (tk : List mv_Q) (fd : List Int) (h : INV t S) (hk : ∀ k, k < tk.length → 0 ≤ (mg tk k).1 ∧ (mg tk k).1 ≤ 8) : INV t (setK S tk fd) := by
  obtain ⟨h1, h2, h3, h4, h5⟩ := h
  exact ⟨h1, h2, h3, h4, hk⟩
theorem INV.mb {x : Int} (h : INV t S) (hx : hasM S.2.2.1 x) : 0 ≤ (S.2.2.1 x.toNat).1 ∧ (S.2.2.1 x.toNat).1 < 3 ∧ x.toNat < 4 := by
  obtain ⟨k1, k2⟩ := hx
  have := h.2.2.2.1 x.toNat (by omega)
  omega
theorem INV.us {s : Nat} {rm : Int} (h : INV t S) (hs : s < 4) : INV t (updS S s rm) := h.se (h.2.2.2.1 s hs)
theorem INV.append {m f z : Int} (h : INV t S) (ht : t ≤ 512) : INV (t + 1) (sp_append S m f z).2 := by
  unfold sp_append
  split
  · next hq =>
    unfold sAdd
    split
    · exact h.up
    · next h12 =>
      have hw := (h.1.wb m.toNat).2.1
      refine h.ntc ht (by simp only; omega) (Or.inl ⟨rfl, rfl, ?_⟩)
      show (rp S.1.1 m.toNat).1.length < 12
      omega
  · exact h.up
theorem INV.select {s m r : Int} (h : INV t S) : INV (t + 1) (sp_select S s m r).2 := by
  unfold sp_select
  split
  · next hq => exact h.up.se (by simp only; omega)
  · exact h.up
theorem INV.close {s : Int} (h : INV t S) (ht : t ≤ 512) : INV (t + 1) (sp_close S s).2 := by
  unfold sp_close
  split
  · next hq =>
    have hb := h.mb hq
    split
    · exact (h.pur ht (by omega)).up.se (by unfold lvS; simp only; omega)
    · exact h.up.se (by unfold lvS; simp only; omega)
  · exact h.up
theorem INV.check {s : Int} (h : INV t S) : INV (t + 1) (sp_check S s).2 := by
  unfold sp_check
  split
  · next hq => exact h.up.us (h.mb hq).2.2
  · exact h.up
theorem INV.fetch {s n : Int} (h : INV t S) : INV (t + 1) (sp_fetch S s n).2 := by
  unfold sp_fetch
  split
  · next hq =>
    have hb := h.mb hq.1
    split
    · exact h.up.se (by unfold kn; simp only; omega)
    · exact h.up
  · exact h.up
theorem INV.store {s n mode f : Int} (h : INV t S) (ht : t ≤ 512) : INV (t + 1) (sp_store S s n mode f).2 := by
  unfold sp_store
  split
  · next hq =>
    have hb := h.mb hq.2.2.1
    split
    · split
      · next hu =>
        refine INV.us ?_ hb.2.2
        unfold stS
        refine INV.se (h.ntc (c := (3, (S.2.2.1 s.toNat).1, (vg (vws S s.toNat) (n.toNat - 1)).1, stF S s n mode f, 0)) ht (by simp only; omega) (Or.inr ⟨Or.inr rfl, hu⟩)) ?_
        unfold kn
        simp only
        omega
      · exact h.up
    · exact h.up
  · exact h.up
theorem INV.expunge {s : Int} (h : INV t S) (ht : t ≤ 512) : INV (t + 1) (sp_expunge S s).2 := by
  unfold sp_expunge
  split
  · next hq =>
    have hb := h.mb hq
    split
    · exact (h.pur ht (by omega)).up.us hb.2.2
    · exact h.up
  · exact h.up
theorem INV.copy {s n m : Int} (h : INV t S) (ht : t ≤ 512) : INV (t + 1) (sp_copy S s n m).2 := by
  unfold sp_copy
  split
  · next hq =>
    have hb := h.mb hq.2.1
    split
    · split
      · exact h.up
      · next h12 =>
        refine INV.us ?_ hb.2.2
        unfold sAdd
        rw [if_neg h12]
        have hw := (h.1.wb m.toNat).2.1
        refine h.ntc ht (by simp only; omega) (Or.inl ⟨rfl, rfl, ?_⟩)
        show (rp S.1.1 m.toNat).1.length < 12
        omega
    · exact h.up
  · exact h.up
theorem INV.criterion {op a b : Int} (h : INV t S) : INV (t + 1) (sp_criterion S op a b).2 := by
  unfold sp_criterion
  split
  · next hq =>
    split
    · exact h.up
    · refine h.up.kt _ _ (fun k hk => ?_)
      rw [List.length_append] at hk
      simp only [List.length_cons, List.length_nil] at hk
      rw [mg_app]
      by_cases hk2 : k < S.2.2.2.1.length
      · rw [if_pos hk2]
        exact h.2.2.2.2 k hk2
      · rw [if_neg hk2, if_pos (by omega)]
        exact hq
  · exact h.up
theorem INV.search {s : Int} (h : INV t S) : INV (t + 1) (sp_search S s).2 := by
  unfold sp_search
  split
  · next hq =>
    have hb := h.mb hq
    split
    · exact (h.up.kt [] _ (fun k hk => absurd hk (Nat.not_lt_zero _))).us hb.2.2
    · exact h.up.kt [] _ (fun k hk => absurd hk (Nat.not_lt_zero _))
  · exact h.up
theorem INV.sync (h : INV t S) : INV (t + 1) (sp_sync S) := by
  obtain ⟨⟨i1, i2, i3, i4⟩, h2⟩ := h.up
  exact ⟨⟨i1, Nat.le_refl _, by show S.1.1.length - S.1.1.length < 8; omega, i4⟩, h2⟩
theorem INV.crash (h : INV t S) : INV (t + 1) (sp_crash S) := by
  obtain ⟨⟨i1, i2, i3, i4⟩, h2, h3, h4, h5⟩ := h
  have el : (S.1.1.take S.1.2).length = S.1.2 := by rw [List.length_take]; omega
  refine ⟨⟨fun i hi => ?_, ?_, ?_, ?_⟩, ?_, fun m hm => ?_, fun s hs => ?_, h5⟩
  · have hi : i < (S.1.1.take S.1.2).length := hi
    rw [el] at hi
    have := i1 i (by omega)
    show (0 ≤ (hg (S.1.1.take S.1.2) i).2.1 ∧ (hg (S.1.1.take S.1.2) i).2.1 < 3) ∧ vc (hg (S.1.1.take S.1.2) i) (rp ((S.1.1.take S.1.2).take i) (hg (S.1.1.take S.1.2) i).2.1.toNat)
    have e : hg (S.1.1.take S.1.2) i = hg S.1.1 i := by
      unfold hg
      rw [List.getD_eq_getElem?_getD, List.getD_eq_getElem?_getD, List.getElem?_take_of_lt hi]
    rw [e, List.take_take, Nat.min_eq_left (by omega)]
    exact this
  · show S.1.2 ≤ (S.1.1.take S.1.2).length
    omega
  · show (S.1.1.take S.1.2).length - S.1.2 < 8
    omega
  · show (S.1.1.take S.1.2).length < 5000
    omega
  · have := ph_take i1 (S.1.1.length - S.1.2) S.1.2 (by omega)
    show ph (S.1.1.take S.1.2) ≤ _
    omega
  · have := h3 m hm
    show 0 ≤ (if lost S.1.1 S.1.2 m = true then S.2.1 m + 1 else S.2.1 m) ∧ (if lost S.1.1 S.1.2 m = true then S.2.1 m + 1 else S.2.1 m) ≤ ((t + 1 : Nat) : Int) + 1
    split <;> omega
  · show -1 ≤ (lvS (S.2.2.1 s)).1 ∧ (lvS (S.2.2.1 s)).1 < 3
    unfold lvS
    simp only
    omega
theorem INV.zero : INV 0 mv_S0 := by
  refine ⟨⟨fun i hi => absurd hi (Nat.not_lt_zero _), Nat.le_refl _, by decide, by decide⟩, Nat.le_refl _, fun m hm => ?_, fun s hs => ?_, fun k hk => absurd hk (Nat.not_lt_zero _)⟩
  · show (0 : Int) ≤ 1 ∧ (1 : Int) ≤ ((0 : Nat) : Int) + 1
    omega
  · show (-1 : Int) ≤ -1 ∧ (-1 : Int) < 3
    omega
end Inv
