/-! the class's crash and its constructors -/
section V8
variable {d nn ss : Nat} {μ : Nat → Option am_C} {Q : Option am_V → am_M → Prop} {S : mv_T}
theorem VX.cg {B : Nat → mv_B} {vl vl' : Nat → Int} {ses ses' : Nat → mv_S} {E : Nat → mv_H} {op du : Nat} {tk : List mv_Q} {fd : List Int} (h : VX μ B vl ses E op du tk fd) (h1 : ∀ m, m < 3 → vl m = vl' m) (h2 : ∀ s, s < 4 → ses s = ses' s) : VX μ B vl' ses' E op du tk fd := by
  obtain ⟨g1, g2, g3, g4, g5⟩ := h
  exact ⟨g1, g2, fun m hm => by rw [← h1 m hm]; exact g3 m hm, fun s hs => by rw [← h2 s hs]; exact g4 s hs, g5⟩
def cS (S : mv_T) (i : Nat) : mv_T := (S.1, S.2.1, (fun k => if k < i then lvS (S.2.2.1 k) else S.2.2.1 k), S.2.2.2)
theorem cS_0 : cS S 0 = S := by
  unfold cS
  simp
theorem cS_s {i : Nat} : setS (cS S i) i (lvS ((cS S i).2.2.1 i)) = cS S (i + 1) := by
  have e : (am_fu (fun k => if k < i then lvS (S.2.2.1 k) else S.2.2.1 k) i (lvS ((cS S i).2.2.1 i))) = (fun k => if k < i + 1 then lvS (S.2.2.1 k) else S.2.2.1 k) := by
    funext k
    by_cases hk : k = i
    · rw [hk, am_fu_s, if_pos (by omega)]
      show lvS (if i < i then _ else _) = _
      rw [if_neg (by omega)]
    · rw [am_fu_n hk]
      by_cases hk2 : k < i
      · rw [if_pos hk2, if_pos (by omega)]
      · rw [if_neg hk2, if_neg (by omega)]
  unfold setS
  rw [show (cS S i).2.2.1 i = (cS S i).2.2.1 i from rfl]
  show (S.1, S.2.1, am_fu (fun k => if k < i then lvS (S.2.2.1 k) else S.2.2.1 k) i (lvS ((cS S i).2.2.1 i)), S.2.2.2) = _
  rw [e]
  rfl
theorem lost_iff {lg : List mv_H} {du : Nat} {E : Nat → mv_H} (hj : jOk lg du E) (hd : du ≤ lg.length) (hl : lgOk lg) (m : Int) : (∃ k, k < lg.length - du ∧ (E k).1 = 0 ∧ (E k).2.1 = m) ↔ lost lg du m = true := by
  unfold lost
  rw [List.any_eq_true]
  have key : ∀ k, k < lg.length - du → ((E k).1 = 0 ↔ (hg lg (du + k)).1 = 1) ∧ (E k).2.1 = (hg lg (du + k)).2.1 := by
    intro k hk
    rw [hj k hk]
    have hv := (hl (du + k) (by omega)).2
    unfold ui
    rcases hv with ⟨k1, -⟩ | ⟨k1, -⟩
    · rw [if_pos k1]
      exact ⟨⟨fun _ => k1, fun _ => rfl⟩, rfl⟩
    · rw [if_neg (by omega)]
      rcases k1 with k1 | k1
      · rw [if_pos k1]
        exact ⟨⟨fun h => by simp at h, fun h => by omega⟩, rfl⟩
      · rw [if_neg (by omega)]
        exact ⟨⟨fun h => by simp at h, fun h => by omega⟩, rfl⟩
  have mem : ∀ k, k < lg.length - du → hg lg (du + k) ∈ lg.drop du := by
    intro k hk
    rw [List.mem_drop_iff_getElem]
    refine ⟨k, by omega, ?_⟩
    unfold hg
    rw [List.getD_eq_getElem?_getD, List.getElem?_eq_getElem (by omega)]
    rfl
  constructor
  · rintro ⟨k, hk, h1, h2⟩
    refine ⟨hg lg (du + k), mem k hk, ?_⟩
    rw [Bool.and_eq_true]
    exact ⟨decide_eq_true ((key k hk).1.mp h1), decide_eq_true (by rw [← (key k hk).2]; exact h2)⟩
  · rintro ⟨c, hc, h⟩
    rw [Bool.and_eq_true] at h
    obtain ⟨i, hi, rfl⟩ := List.getElem_of_mem hc
    rw [List.length_drop] at hi
    have e : (lg.drop du)[i] = hg lg (du + i) := by
      unfold hg
      rw [List.getD_eq_getElem?_getD, List.getElem?_eq_getElem (by omega)]
      simp
    rw [e] at h
    exact ⟨i, hi, (key i hi).1.mpr (of_decide_eq_true h.1), by rw [(key i hi).2]; exact of_decide_eq_true h.2⟩
def vlC (S : mv_T) (i : Nat) : Nat → Int := fun m => if m < i ∧ lost S.1.1 S.1.2 m = true then S.2.1 m + 1 else S.2.1 m
theorem v_crash (h : VR μ S) (hI : IC S) (hQ : ∀ μ', VR μ' (sp_crash S) → fr μ μ' 1 50 → Q (some (.inl S.1.2)) (nn, ss, μ')) : am_Wp mv_P (d + 6) jV_crash [.inr (some 1)] (nn, ss, μ) Q := by
  obtain ⟨i1, i2, i3, i4⟩ := id hI.1
  have hLI := hI.1
  have loop2 : ∀ (r i : Nat) (E : Nat → mv_H) (μ' : Nat → Option am_C), i + r = 3 → VX μ' (rp S.1.1) (vlC S i) (cS S 4).2.2.1 E (S.1.1.length - S.1.2) S.1.2 S.2.2.2.1 S.2.2.2.2 → jOk S.1.1 S.1.2 E → fr μ μ' 1 50 → am_Ex mv_P (d + 5) (am_at kV_crash) (24, [some (.inr (some 1)), some (.inl (i : Int))], [], nn, ss, μ') Q := by
    intro r
    induction r with
    | zero =>
      intro i E μ' hi hX hj hf
      have g1 := hX.1
      unfold voP at g1
      refine x_iload rfl rfl ?_
      refine x_const rfl ?_
      refine x_icmp_ge rfl (fun hc => ?_) (fun hc => ?_)
      · refine x_aload rfl rfl ?_
        refine x_get rfl g1 rfl ?_
        refine x_aload rfl rfl ?_
        refine x_get rfl g1 rfl ?_
        refine x_callV1 rfl hX.2.2.2.2.1.1 (Nat.le_of_ble_eq_true rfl) ?_
        refine c_J_takeBackAll (B := rp S.1.1) (lg := S.1.1) (du := S.1.2) hX hj hLI (fun μ1 hX1 hf1 => ?_)
        have g1' := hX1.1
        unfold voP at g1'
        refine x_aload rfl rfl ?_
        refine x_get rfl g1' rfl ?_
        refine x_callV0 rfl hX1.2.2.2.2.1.1 (Nat.le_of_ble_eq_true rfl) ?_
        refine c_J_changeCount hX1.2.2.2.2.1 (by omega) ?_
        refine x_iret rfl ?_
        rw [show ((S.1.2 : Nat) : Int) + ((0 : Nat) : Int) = ((S.1.2 : Nat) : Int) by omega]
        refine hQ μ1 ⟨E, ?_, fun k hk => ?_⟩ (hf.tr hf1)
        · have e : (sp_crash S).1.1.length - (sp_crash S).1.2 = 0 := by
            show (S.1.1.take S.1.2).length - S.1.2 = 0
            rw [List.length_take]
            omega
          rw [e]
          refine hX1.cg (fun m hm => ?_) (fun s hs => ?_)
          · show vlC S i m = if lost S.1.1 S.1.2 m = true then S.2.1 m + 1 else S.2.1 m
            unfold vlC
            by_cases hl : lost S.1.1 S.1.2 m = true
            · rw [if_pos ⟨by omega, hl⟩, if_pos hl]
            · rw [if_neg (fun q => hl q.2), if_neg hl]
          · show (if s < 4 then lvS (S.2.2.1 s) else S.2.2.1 s) = _
            rw [if_pos hs]
            rfl
        · exfalso
          have hk : k < (S.1.1.take S.1.2).length - S.1.2 := hk
          rw [List.length_take] at hk
          omega
      · exact absurd hc (by omega)
    | succ r ih =>
      intro i E μ' hi hX hj hf
      have g1 := hX.1
      unfold voP at g1
      obtain ⟨f0, g5, g6⟩ := hX.2.1.1
      have hb := hX.2.2.1 i (by omega)
      obtain ⟨fs, hob⟩ := hb.ob
      have hv := hI.2.2.1 i (by omega)
      have ev : vlC S i i = S.2.1 i := by
        unfold vlC
        rw [if_neg (fun q => absurd q.1 (by omega))]
      refine x_iload rfl rfl ?_
      refine x_const rfl ?_
      refine x_icmp_ge rfl (fun hc => ?_) (fun hc => ?_)
      · exact absurd hc (by omega)
      · refine x_aload rfl rfl ?_
        refine x_get rfl g1 rfl ?_
        refine x_iload rfl rfl ?_
        refine x_callV1 rfl hX.2.2.2.2.1.1 (Nat.le_of_ble_eq_true rfl) ?_
        refine c_J_hasOpenAdditionTo hX.2.2.2.2.1 (by omega) (fun hl => ?_) (fun hl => ?_)
        · rw [lost_iff hj i2 i1] at hl
          refine x_if_eq rfl (fun hc => ?_) (fun hc => ?_)
          · exact absurd hc (by decide)
          · refine x_aload rfl rfl ?_
            refine x_get rfl g1 rfl ?_
            refine x_iload rfl rfl ?_
            refine x_aaldN (j := i) rfl g5 (by omega) (by omega) ?_
            rw [g6 i (by omega)]
            refine x_callV0 rfl hob (Nat.le_of_ble_eq_true rfl) ?_
            refine d_B_growValidity hb (by rw [ev]; omega) (fun μ1 hb1 hf1 => ?_)
            have hX1 := hX.box (by omega) hb1 hf1
            rw [am_fu_i] at hX1
            refine x_iinc rfl rfl ⟨by omega, by omega⟩ ?_
            refine x_goto rfl ?_
            refine ih (i + 1) E μ1 (by omega) (hX1.cg (fun m hm => ?_) (fun _ _ => rfl)) hj (hf.tr (hf1.wd (by omega) (by omega)))
            by_cases hm2 : m = i
            · rw [hm2, am_fu_s, ev]
              unfold vlC
              rw [if_pos ⟨by omega, hl⟩]
            · rw [am_fu_n hm2]
              unfold vlC
              by_cases hm3 : m < i ∧ lost S.1.1 S.1.2 m = true
              · rw [if_pos hm3, if_pos ⟨by omega, hm3.2⟩]
              · rw [if_neg hm3, if_neg (fun q => hm3 ⟨by omega, q.2⟩)]
        · rw [lost_iff hj i2 i1] at hl
          refine x_if_eq rfl (fun hc => ?_) (fun hc => ?_)
          · refine x_iinc rfl rfl ⟨by omega, by omega⟩ ?_
            refine x_goto rfl ?_
            refine ih (i + 1) E μ' (by omega) (hX.cg (fun m hm => ?_) (fun _ _ => rfl)) hj hf
            unfold vlC
            by_cases hm2 : m = i
            · rw [if_neg (by omega), if_neg (fun q => hl (by rw [← hm2]; exact q.2))]
            · by_cases hm3 : m < i ∧ lost S.1.1 S.1.2 m = true
              · rw [if_pos hm3, if_pos ⟨by omega, hm3.2⟩]
              · rw [if_neg hm3, if_neg (fun q => hm3 ⟨by omega, q.2⟩)]
          · exact absurd rfl hc
  have loop1 : ∀ (r i : Nat) (μ' : Nat → Option am_C), i + r = 4 → VR μ' (cS S i) → fr μ μ' 1 50 → am_Ex mv_P (d + 5) (am_at kV_crash) (2, [some (.inr (some 1)), some (.inl (i : Int))], [], nn, ss, μ') Q := by
    intro r
    induction r with
    | zero =>
      intro i μ' hi hV hf
      refine x_iload rfl rfl ?_
      refine x_const rfl ?_
      refine x_icmp_ge rfl (fun hc => ?_) (fun hc => ?_)
      · refine x_const rfl ?_
        refine x_istore rfl (Nat.le_of_ble_eq_true rfl) ?_
        obtain ⟨E, hX, hj⟩ := hV.VX
        have ei : i = 4 := by omega
        subst ei
        refine loop2 3 0 E μ' rfl (hX.cg (fun m hm => ?_) (fun _ _ => rfl)) hj hf
        unfold vlC
        rw [if_neg (fun q => absurd q.1 (by omega))]
        rfl
      · exact absurd hc (by omega)
    | succ r ih =>
      intro i μ' hi hV hf
      obtain ⟨E, hX, hj⟩ := hV.VX
      have g1 := hX.1
      unfold voP at g1
      obtain ⟨f1, g2, g3⟩ := hX.2.1.2
      obtain ⟨V, T, kA, -⟩ := hX.2.2.2.1 i (by omega)
      refine x_iload rfl rfl ?_
      refine x_const rfl ?_
      refine x_icmp_ge rfl (fun hc => ?_) (fun hc => ?_)
      · exact absurd hc (by omega)
      · refine x_aload rfl rfl ?_
        refine x_get rfl g1 rfl ?_
        refine x_iload rfl rfl ?_
        refine x_aaldN (j := i) rfl g2 (by omega) (by omega) ?_
        rw [g3 i (by omega)]
        refine x_callV0 rfl kA.1 (Nat.le_of_ble_eq_true rfl) ?_
        refine v_leave hV (by omega) (fun μ1 hV1 hf1 => ?_)
        rw [cS_s] at hV1
        refine x_iinc rfl rfl ⟨by omega, by omega⟩ ?_
        refine x_goto rfl ?_
        exact ih (i + 1) μ1 (by omega) hV1 (hf.tr hf1)
  refine am_wp pV_crash (Nat.le_of_ble_eq_true rfl) ?_
  refine x_const rfl ?_
  refine x_istore rfl (Nat.le_of_ble_eq_true rfl) ?_
  exact loop1 4 0 μ rfl (by rw [cS_0]; exact h) fr.rf
end V8
