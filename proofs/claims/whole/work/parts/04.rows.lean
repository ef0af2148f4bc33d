/-! SOUNDNESS, second part: instructions that leave the heap alone -/
section AmS
variable {E : am_E} {tb : Nat → am_T} {P : am_P} {T : am_T} {pc n k t : Nat}
theorem s_iconst {z : Int} (hd : decode T.2.1 pc = .ok (.iconst z, 1)) (hz : am_ok z) (hn : pc + 1 = n) : am_G E tb P T pc (i_const z n) := by
  subst hn
  refine am_G.ofStep (fun ls st M x h => ?_)
  cases h
  refine ⟨_, rfl, Nat.le_refl _, Nat.le_refl _, ?_⟩
  intro p l e R s m args below meth c Q H locs cells slots n0 k0 lsC X hS hR hL _ _ kk
  refine lv_iconst X.1 X.2.1 hd rfl ?_
  exact kk H locs cells slots lsC (am_wS_c hz hS) hR hL
theorem s_bipush {z : Int} (hd : decode T.2.1 pc = .ok (.bipush z, 2)) (hv : (Int8.ofInt z).toInt32 = Int32.ofInt z) (hz : am_ok z) (hn : pc + 2 = n) : am_G E tb P T pc (i_const z n) := by
  subst hn
  refine am_G.ofStep (fun ls st M x h => ?_)
  cases h
  refine ⟨_, rfl, Nat.le_refl _, Nat.le_refl _, ?_⟩
  intro p l e R s m args below meth c Q H locs cells slots n0 k0 lsC X hS hR hL _ _ kk
  refine lv_bipush X.1 X.2.1 hd hv ?_
  exact kk H locs cells slots lsC (am_wS_c hz hS) hR hL
theorem s_sipush {z : Int} (hd : decode T.2.1 pc = .ok (.sipush z, 3)) (hv : (Int16.ofInt z).toInt32 = Int32.ofInt z) (hz : am_ok z) (hn : pc + 3 = n) : am_G E tb P T pc (i_const z n) := by
  subst hn
  refine am_G.ofStep (fun ls st M x h => ?_)
  cases h
  refine ⟨_, rfl, Nat.le_refl _, Nat.le_refl _, ?_⟩
  intro p l e R s m args below meth c Q H locs cells slots n0 k0 lsC X hS hR hL _ _ kk
  refine lv_sipush X.1 X.2.1 hd hv ?_
  exact kk H locs cells slots lsC (am_wS_c hz hS) hR hL
theorem s_ldc {z : Int} {index : Nat} (hd : decode T.2.1 pc = .ok (.ldc index, 2)) (hw : Cond.constant T.1.cls index (Int32.ofInt z) ∈ e_Ts E) (hz : am_ok z) (hn : pc + 2 = n) : am_G E tb P T pc (i_const z n) := by
  subst hn
  refine am_G.ofStep (fun ls st M x h => ?_)
  cases h
  refine ⟨_, rfl, Nat.le_refl _, Nat.le_refl _, ?_⟩
  intro p l e R s m args below meth c Q H locs cells slots n0 k0 lsC X hS hR hL _ _ kk
  refine lv_ldc X.1 X.2.1 X.2.2.2.1 (X.2.2.2.2.1 _ hw) hd ?_
  exact kk H locs cells slots lsC (am_wS_c hz hS) hR hL
theorem s_null (hd : decode T.2.1 pc = .ok (.aconst_null, 1)) (hn : pc + 1 = n) : am_G E tb P T pc (i_null n) := by
  subst hn
  refine am_G.ofStep (fun ls st M x h => ?_)
  cases h
  refine ⟨_, rfl, Nat.le_refl _, Nat.le_refl _, ?_⟩
  intro p l e R s m args below meth c Q H locs cells slots n0 k0 lsC X hS hR hL _ _ kk
  refine lv_null X.1 X.2.1 hd ?_
  exact kk H locs cells slots lsC (am_wS_c trivial hS) hR hL
theorem s_iload_n {kf : Fin 4} (hd : decode T.2.1 pc = .ok (.iload_n kf, 1)) (hk : (kf : Nat) = k) (hn : pc + 1 = n) : am_G E tb P T pc (i_iload k n) := by
  subst hk; subst hn
  refine am_G.ofStep (fun ls st M x h => ?_)
  unfold i_iload at h
  dsimp only at h
  split at h
  · next z hl =>
    cases h
    refine ⟨_, rfl, Nat.le_refl _, Nat.le_refl _, ?_⟩
    intro p l e R s m args below meth c Q H locs cells slots n0 k0 lsC X hS hR hL _ _ kk
    refine lv_iload_n X.1 X.2.1 hd rfl (hL.get hl) ?_
    exact kk H locs cells slots lsC (am_wS_c (hL.wf hl) hS) hR hL
  · cases h
theorem s_iload (hd : decode T.2.1 pc = .ok (.iload k, 2)) (hn : pc + 2 = n) : am_G E tb P T pc (i_iload k n) := by
  subst hn
  refine am_G.ofStep (fun ls st M x h => ?_)
  unfold i_iload at h
  dsimp only at h
  split at h
  · next z hl =>
    cases h
    refine ⟨_, rfl, Nat.le_refl _, Nat.le_refl _, ?_⟩
    intro p l e R s m args below meth c Q H locs cells slots n0 k0 lsC X hS hR hL _ _ kk
    refine lv_iload X.1 X.2.1 hd (hL.get hl) ?_
    exact kk H locs cells slots lsC (am_wS_c (hL.wf hl) hS) hR hL
  · cases h
theorem s_aload_n {kf : Fin 4} (hd : decode T.2.1 pc = .ok (.aload_n kf, 1)) (hk : (kf : Nat) = k) (hn : pc + 1 = n) : am_G E tb P T pc (i_aload k n) := by
  subst hk; subst hn
  refine am_G.ofStep (fun ls st M x h => ?_)
  unfold i_aload at h
  dsimp only at h
  split at h
  · next r hl =>
    cases h
    refine ⟨_, rfl, Nat.le_refl _, Nat.le_refl _, ?_⟩
    intro p l e R s m args below meth c Q H locs cells slots n0 k0 lsC X hS hR hL _ _ kk
    have hk := kk H locs cells slots lsC (am_wS_c (hL.wf hl) hS) hR hL
    have hg := hL.get hl
    cases r with
    | none => exact lv_aload_nN X.1 X.2.1 hd rfl hg hk
    | some a => exact lv_aload_n X.1 X.2.1 hd rfl hg hk
  · cases h
theorem s_aload (hd : decode T.2.1 pc = .ok (.aload k, 2)) (hn : pc + 2 = n) : am_G E tb P T pc (i_aload k n) := by
  subst hn
  refine am_G.ofStep (fun ls st M x h => ?_)
  unfold i_aload at h
  dsimp only at h
  split at h
  · next r hl =>
    cases h
    refine ⟨_, rfl, Nat.le_refl _, Nat.le_refl _, ?_⟩
    intro p l e R s m args below meth c Q H locs cells slots n0 k0 lsC X hS hR hL _ _ kk
    have hk := kk H locs cells slots lsC (am_wS_c (hL.wf hl) hS) hR hL
    have hg := hL.get hl
    cases r with
    | none => exact lv_aloadN X.1 X.2.1 hd hg hk
    | some a => exact lv_aload X.1 X.2.1 hd hg hk
  · cases h
theorem s_istore_n {kf : Fin 4} (hd : decode T.2.1 pc = .ok (.istore_n kf, 1)) (hk : (kf : Nat) = k) (hn : pc + 1 = n) : am_G E tb P T pc (i_istore k n) := by
  subst hk; subst hn
  refine am_G.ofStep (fun ls st M x h => ?_)
  unfold i_istore at h
  dsimp only at h
  split at h
  · next z st' =>
    split at h
    · next hk =>
      cases h
      refine ⟨_, rfl, Nat.le_refl _, Nat.le_refl _, ?_⟩
      intro p l e R s m args below meth c Q H locs cells slots n0 k0 lsC X hS hR hL _ _ kk
      rw [hL.2.2.1] at hk
      refine lv_istore_n X.1 X.2.1 hd rfl hL.has hk rfl (fun lsC' h' => ?_)
      exact kk H locs cells slots lsC' (am_wS_t hS) hR (hL.set (v := .inl z) hk (am_wS_h hS) h')
    · cases h
  · cases h
theorem s_istore (hd : decode T.2.1 pc = .ok (.istore k, 2)) (hn : pc + 2 = n) : am_G E tb P T pc (i_istore k n) := by
  subst hn
  refine am_G.ofStep (fun ls st M x h => ?_)
  unfold i_istore at h
  dsimp only at h
  split at h
  · next z st' =>
    split at h
    · next hk =>
      cases h
      refine ⟨_, rfl, Nat.le_refl _, Nat.le_refl _, ?_⟩
      intro p l e R s m args below meth c Q H locs cells slots n0 k0 lsC X hS hR hL _ _ kk
      rw [hL.2.2.1] at hk
      refine lv_istore X.1 X.2.1 hd hL.has hk rfl (fun lsC' h' => ?_)
      exact kk H locs cells slots lsC' (am_wS_t hS) hR (hL.set (v := .inl z) hk (am_wS_h hS) h')
    · cases h
  · cases h
theorem s_astore_n {kf : Fin 4} (hd : decode T.2.1 pc = .ok (.astore_n kf, 1)) (hk : (kf : Nat) = k) (hn : pc + 1 = n) : am_G E tb P T pc (i_astore k n) := by
  subst hk; subst hn
  refine am_G.ofStep (fun ls st M x h => ?_)
  unfold i_astore at h
  dsimp only at h
  split at h
  · next r st' =>
    split at h
    · next hk =>
      cases h
      refine ⟨_, rfl, Nat.le_refl _, Nat.le_refl _, ?_⟩
      intro p l e R s m args below meth c Q H locs cells slots n0 k0 lsC X hS hR hL _ _ kk
      rw [hL.2.2.1] at hk
      have k2 : ∀ lsC', lv_has lsC' T.2.2.1 ((_, am_cv E (.inr r)) :: (am_pr E ls).filter (fun q => !(q.1 == _) && !(q.1 + 1 == _ && q.2.category == 2))) → _ := fun lsC' h' => kk H locs cells slots lsC' (am_wS_t hS) hR (hL.set (v := .inr r) hk (am_wS_h hS) h')
      cases r with
      | none => exact lv_astore_nN X.1 X.2.1 hd rfl hL.has hk rfl (fun lsC' h' => k2 lsC' h')
      | some a => exact lv_astore_n X.1 X.2.1 hd rfl hL.has hk rfl (fun lsC' h' => k2 lsC' h')
    · cases h
  · cases h
theorem s_astore (hd : decode T.2.1 pc = .ok (.astore k, 2)) (hn : pc + 2 = n) : am_G E tb P T pc (i_astore k n) := by
  subst hn
  refine am_G.ofStep (fun ls st M x h => ?_)
  unfold i_astore at h
  dsimp only at h
  split at h
  · next r st' =>
    split at h
    · next hk =>
      cases h
      refine ⟨_, rfl, Nat.le_refl _, Nat.le_refl _, ?_⟩
      intro p l e R s m args below meth c Q H locs cells slots n0 k0 lsC X hS hR hL _ _ kk
      rw [hL.2.2.1] at hk
      have k2 : ∀ lsC', lv_has lsC' T.2.2.1 ((_, am_cv E (.inr r)) :: (am_pr E ls).filter (fun q => !(q.1 == _) && !(q.1 + 1 == _ && q.2.category == 2))) → _ := fun lsC' h' => kk H locs cells slots lsC' (am_wS_t hS) hR (hL.set (v := .inr r) hk (am_wS_h hS) h')
      cases r with
      | none => exact lv_astoreN X.1 X.2.1 hd hL.has hk rfl (fun lsC' h' => k2 lsC' h')
      | some a => exact lv_astore X.1 X.2.1 hd hL.has hk rfl (fun lsC' h' => k2 lsC' h')
    · cases h
  · cases h
theorem s_iinc {z : Int} (hd : decode T.2.1 pc = .ok (.iinc k z, 3)) (hn : pc + 3 = n) : am_G E tb P T pc (i_iinc k z n) := by
  subst hn
  refine am_G.ofStep (fun ls st M x h => ?_)
  unfold i_iinc at h
  dsimp only at h
  split at h
  · next y hl =>
    split at h
    · next hz =>
      cases h
      refine ⟨_, rfl, Nat.le_refl _, Nat.le_refl _, ?_⟩
      intro p l e R s m args below meth c Q H locs cells slots n0 k0 lsC X hS hR hL _ _ kk
      have hk : k < T.2.2.1 := by rw [← hL.2.2.1]; exact (List.getElem?_eq_some_iff.mp hl).1
      obtain ⟨i, hi⟩ := List.getElem?_of_mem (am_pr_in (E := E) hl)
      refine lv_iinc X.1 X.2.1 hd hL.has hi (Int32.ofInt_add y z).symm hk rfl (fun lsC' h' => ?_)
      exact kk H locs cells slots lsC' hS hR (hL.set (v := .inl (y + z)) hk hz h')
    · cases h
  · cases h
theorem s_pop (hd : decode T.2.1 pc = .ok (.pop, 1)) (hn : pc + 1 = n) : am_G E tb P T pc (i_pop n) := by
  subst hn
  refine am_G.ofStep (fun ls st M x h => ?_)
  unfold i_pop at h
  dsimp only at h
  split at h
  · next v st' =>
    cases h
    refine ⟨_, rfl, Nat.le_refl _, Nat.le_refl _, ?_⟩
    intro p l e R s m args below meth c Q H locs cells slots n0 k0 lsC X hS hR hL _ _ kk
    refine lv_pop X.1 X.2.1 hd (am_cv_c E _) ?_
    exact kk H locs cells slots lsC (am_wS_t hS) hR hL
  · cases h
theorem s_dup (hd : decode T.2.1 pc = .ok (.dup, 1)) (hn : pc + 1 = n) : am_G E tb P T pc (i_dup n) := by
  subst hn
  refine am_G.ofStep (fun ls st M x h => ?_)
  unfold i_dup at h
  dsimp only at h
  split at h
  · next v st' =>
    cases h
    refine ⟨_, rfl, Nat.le_refl _, Nat.le_refl _, ?_⟩
    intro p l e R s m args below meth c Q H locs cells slots n0 k0 lsC X hS hR hL _ _ kk
    refine lv_dup X.1 X.2.1 hd (am_cv_c E _) ?_
    exact kk H locs cells slots lsC (am_wS_c (am_wS_h hS) hS) hR hL
  · cases h
theorem s_dup_x1 (hd : decode T.2.1 pc = .ok (.dup_x1, 1)) (hn : pc + 1 = n) : am_G E tb P T pc (i_dup_x1 n) := by
  subst hn
  refine am_G.ofStep (fun ls st M x h => ?_)
  unfold i_dup_x1 at h
  dsimp only at h
  split at h
  · next v u st' =>
    cases h
    refine ⟨_, rfl, Nat.le_refl _, Nat.le_refl _, ?_⟩
    intro p l e R s m args below meth c Q H locs cells slots n0 k0 lsC X hS hR hL _ _ kk
    refine lv_dup_x1 X.1 X.2.1 hd (am_cv_c E _) (am_cv_c E _) ?_
    exact kk H locs cells slots lsC (am_wS_c (am_wS_h hS) (am_wS_c (am_wS_h (am_wS_t hS)) (am_wS_c (am_wS_h hS) (am_wS_t (am_wS_t hS))))) hR hL
  · cases h
theorem s_dup_x2 (hd : decode T.2.1 pc = .ok (.dup_x2, 1)) (hn : pc + 1 = n) : am_G E tb P T pc (i_dup_x2 n) := by
  subst hn
  refine am_G.ofStep (fun ls st M x h => ?_)
  unfold i_dup_x2 at h
  dsimp only at h
  split at h
  · next v u r st' =>
    cases h
    refine ⟨_, rfl, Nat.le_refl _, Nat.le_refl _, ?_⟩
    intro p l e R s m args below meth c Q H locs cells slots n0 k0 lsC X hS hR hL _ _ kk
    refine lv_dup_x2 X.1 X.2.1 hd (am_cv_c E _) (am_cv_c E _) (am_cv_c E _) ?_
    exact kk H locs cells slots lsC (am_wS_c (am_wS_h hS) (am_wS_c (am_wS_h (am_wS_t hS)) (am_wS_c (am_wS_h (am_wS_t (am_wS_t hS))) (am_wS_c (am_wS_h hS) (am_wS_t (am_wS_t (am_wS_t hS))))))) hR hL
  · cases h
theorem s_dup2 (hd : decode T.2.1 pc = .ok (.dup2, 1)) (hn : pc + 1 = n) : am_G E tb P T pc (i_dup2 n) := by
  subst hn
  refine am_G.ofStep (fun ls st M x h => ?_)
  unfold i_dup2 at h
  dsimp only at h
  split at h
  · next v u st' =>
    cases h
    refine ⟨_, rfl, Nat.le_refl _, Nat.le_refl _, ?_⟩
    intro p l e R s m args below meth c Q H locs cells slots n0 k0 lsC X hS hR hL _ _ kk
    refine lv_dup2_11 X.1 X.2.1 hd (am_cv_c E _) (am_cv_c E _) ?_
    exact kk H locs cells slots lsC (am_wS_c (am_wS_h hS) (am_wS_c (am_wS_h (am_wS_t hS)) hS)) hR hL
  · cases h
theorem s_iadd (hd : decode T.2.1 pc = .ok (.iadd, 1)) (hn : pc + 1 = n) : am_G E tb P T pc (i_iadd n) := by
  subst hn
  refine am_G.ofStep (fun ls st M x h => ?_)
  unfold i_iadd at h
  dsimp only at h
  split at h
  · next b a st' =>
    split at h
    · next hz =>
      cases h
      refine ⟨_, rfl, Nat.le_refl _, Nat.le_refl _, ?_⟩
      intro p l e R s m args below meth c Q H locs cells slots n0 k0 lsC X hS hR hL _ _ kk
      refine lv_iadd X.1 X.2.1 hd ?_
      rw [← Int32.ofInt_add]
      exact kk H locs cells slots lsC (am_wS_c hz (am_wS_t (am_wS_t hS))) hR hL
    · cases h
  · cases h
theorem s_isub (hd : decode T.2.1 pc = .ok (.isub, 1)) (hn : pc + 1 = n) : am_G E tb P T pc (i_isub n) := by
  subst hn
  refine am_G.ofStep (fun ls st M x h => ?_)
  unfold i_isub at h
  dsimp only at h
  split at h
  · next b a st' =>
    split at h
    · next hz =>
      cases h
      refine ⟨_, rfl, Nat.le_refl _, Nat.le_refl _, ?_⟩
      intro p l e R s m args below meth c Q H locs cells slots n0 k0 lsC X hS hR hL _ _ kk
      refine lv_isub X.1 X.2.1 hd ?_
      rw [← Int32.ofInt_sub]
      exact kk H locs cells slots lsC (am_wS_c hz (am_wS_t (am_wS_t hS))) hR hL
    · cases h
  · cases h
theorem s_imul (hd : decode T.2.1 pc = .ok (.imul, 1)) (hn : pc + 1 = n) : am_G E tb P T pc (i_imul n) := by
  subst hn
  refine am_G.ofStep (fun ls st M x h => ?_)
  unfold i_imul at h
  dsimp only at h
  split at h
  · next b a st' =>
    split at h
    · next hz =>
      cases h
      refine ⟨_, rfl, Nat.le_refl _, Nat.le_refl _, ?_⟩
      intro p l e R s m args below meth c Q H locs cells slots n0 k0 lsC X hS hR hL _ _ kk
      refine lv_imul X.1 X.2.1 hd ?_
      rw [← Int32.ofInt_mul]
      exact kk H locs cells slots lsC (am_wS_c hz (am_wS_t (am_wS_t hS))) hR hL
    · cases h
  · cases h
theorem s_iand (hd : decode T.2.1 pc = .ok (.iand, 1)) (hn : pc + 1 = n) : am_G E tb P T pc (i_iand n) := by
  subst hn
  refine am_G.ofStep (fun ls st M x h => ?_)
  unfold i_iand at h
  dsimp only at h
  split at h
  · next b a st' =>
    cases h
    refine ⟨_, rfl, Nat.le_refl _, Nat.le_refl _, ?_⟩
    intro p l e R s m args below meth c Q H locs cells slots n0 k0 lsC X hS hR hL _ _ kk
    refine lv_iand X.1 X.2.1 hd ?_
    rw [show Int32.ofInt a &&& Int32.ofInt b = Int32.ofInt (am_and a b) from (Int32.ofInt_toInt _).symm]
    exact kk H locs cells slots lsC (am_wS_c (am_ok_and a b) (am_wS_t (am_wS_t hS))) hR hL
  · cases h
theorem s_ior (hd : decode T.2.1 pc = .ok (.ior, 1)) (hn : pc + 1 = n) : am_G E tb P T pc (i_ior n) := by
  subst hn
  refine am_G.ofStep (fun ls st M x h => ?_)
  unfold i_ior at h
  dsimp only at h
  split at h
  · next b a st' =>
    cases h
    refine ⟨_, rfl, Nat.le_refl _, Nat.le_refl _, ?_⟩
    intro p l e R s m args below meth c Q H locs cells slots n0 k0 lsC X hS hR hL _ _ kk
    refine lv_ior X.1 X.2.1 hd ?_
    rw [show Int32.ofInt a ||| Int32.ofInt b = Int32.ofInt (am_or a b) from (Int32.ofInt_toInt _).symm]
    exact kk H locs cells slots lsC (am_wS_c (am_ok_or a b) (am_wS_t (am_wS_t hS))) hR hL
  · cases h
theorem s_ixor (hd : decode T.2.1 pc = .ok (.ixor, 1)) (hn : pc + 1 = n) : am_G E tb P T pc (i_ixor n) := by
  subst hn
  refine am_G.ofStep (fun ls st M x h => ?_)
  unfold i_ixor at h
  dsimp only at h
  split at h
  · next b a st' =>
    cases h
    refine ⟨_, rfl, Nat.le_refl _, Nat.le_refl _, ?_⟩
    intro p l e R s m args below meth c Q H locs cells slots n0 k0 lsC X hS hR hL _ _ kk
    refine lv_ixor X.1 X.2.1 hd ?_
    rw [show Int32.ofInt a ^^^ Int32.ofInt b = Int32.ofInt (am_xor a b) from (Int32.ofInt_toInt _).symm]
    exact kk H locs cells slots lsC (am_wS_c (am_ok_xor a b) (am_wS_t (am_wS_t hS))) hR hL
  · cases h
theorem s_goto {off : Int} (hd : decode T.2.1 pc = .ok (.goto off, 3)) (hn : (pc : Int) + off = (n : Int)) : am_G E tb P T pc (i_goto n) := by
  refine am_G.ofStep (fun ls st M x h => ?_)
  cases h
  refine ⟨_, rfl, Nat.le_refl _, Nat.le_refl _, ?_⟩
  intro p l e R s m args below meth c Q H locs cells slots n0 k0 lsC X hS hR hL _ _ kk
  exact lv_goto X.1 X.2.1 hd hn (kk H locs cells slots lsC hS hR hL)
theorem s_icmp_eq {off : Int} (hd : decode T.2.1 pc = .ok (.if_icmp .eq off, 3)) (ht : (pc : Int) + off = (t : Int)) (hn : pc + 3 = n) : am_G E tb P T pc (i_icmp_eq t n) := by
  subst hn
  refine am_G.ofStep (fun ls st M x h => ?_)
  unfold i_icmp_eq at h
  dsimp only at h
  split at h
  · next b a st' =>
    split at h
    · next hx =>
      cases h
      refine ⟨_, rfl, Nat.le_refl _, Nat.le_refl _, ?_⟩
      intro p l e R s m args below meth c Q H locs cells slots n0 k0 lsC X hS hR hL _ _ kk
      exact lv_icmp_eq X.1 X.2.1 hd ht (fun _ => kk H locs cells slots lsC (am_wS_t (am_wS_t hS)) hR hL) (fun q => absurd ((am_eq (am_wS_h (am_wS_t hS)) (am_wS_h hS)).mpr hx) q)
    · next hx =>
      cases h
      refine ⟨_, rfl, Nat.le_refl _, Nat.le_refl _, ?_⟩
      intro p l e R s m args below meth c Q H locs cells slots n0 k0 lsC X hS hR hL _ _ kk
      exact lv_icmp_eq X.1 X.2.1 hd ht (fun q => absurd ((am_eq (am_wS_h (am_wS_t hS)) (am_wS_h hS)).mp q) hx) (fun _ => kk H locs cells slots lsC (am_wS_t (am_wS_t hS)) hR hL)
  · cases h
theorem s_if_eq {off : Int} (hd : decode T.2.1 pc = .ok (.ifCond .eq off, 3)) (ht : (pc : Int) + off = (t : Int)) (hn : pc + 3 = n) : am_G E tb P T pc (i_if_eq t n) := by
  subst hn
  refine am_G.ofStep (fun ls st M x h => ?_)
  unfold i_if_eq at h
  dsimp only at h
  split at h
  · next a st' =>
    split at h
    · next hx =>
      cases h
      refine ⟨_, rfl, Nat.le_refl _, Nat.le_refl _, ?_⟩
      intro p l e R s m args below meth c Q H locs cells slots n0 k0 lsC X hS hR hL _ _ kk
      exact lv_if_eq X.1 X.2.1 hd ht (fun _ => kk H locs cells slots lsC (am_wS_t hS) hR hL) (fun q => absurd ((am_eq (am_wS_h hS) am_ok0).mpr hx) q)
    · next hx =>
      cases h
      refine ⟨_, rfl, Nat.le_refl _, Nat.le_refl _, ?_⟩
      intro p l e R s m args below meth c Q H locs cells slots n0 k0 lsC X hS hR hL _ _ kk
      exact lv_if_eq X.1 X.2.1 hd ht (fun q => absurd ((am_eq (am_wS_h hS) am_ok0).mp q) hx) (fun _ => kk H locs cells slots lsC (am_wS_t hS) hR hL)
  · cases h
theorem s_icmp_ne {off : Int} (hd : decode T.2.1 pc = .ok (.if_icmp .ne off, 3)) (ht : (pc : Int) + off = (t : Int)) (hn : pc + 3 = n) : am_G E tb P T pc (i_icmp_ne t n) := by
  subst hn
  refine am_G.ofStep (fun ls st M x h => ?_)
  unfold i_icmp_ne at h
  dsimp only at h
  split at h
  · next b a st' =>
    split at h
    · next hx =>
      cases h
      refine ⟨_, rfl, Nat.le_refl _, Nat.le_refl _, ?_⟩
      intro p l e R s m args below meth c Q H locs cells slots n0 k0 lsC X hS hR hL _ _ kk
      exact lv_icmp_ne X.1 X.2.1 hd ht (fun _ => kk H locs cells slots lsC (am_wS_t (am_wS_t hS)) hR hL) (fun q => absurd ((am_eq (am_wS_h (am_wS_t hS)) (am_wS_h hS)).mp q) hx)
    · next hx =>
      cases h
      refine ⟨_, rfl, Nat.le_refl _, Nat.le_refl _, ?_⟩
      intro p l e R s m args below meth c Q H locs cells slots n0 k0 lsC X hS hR hL _ _ kk
      exact lv_icmp_ne X.1 X.2.1 hd ht (fun q => absurd ((am_eq (am_wS_h (am_wS_t hS)) (am_wS_h hS)).mpr (Classical.not_not.mp hx)) q) (fun _ => kk H locs cells slots lsC (am_wS_t (am_wS_t hS)) hR hL)
  · cases h
theorem s_if_ne {off : Int} (hd : decode T.2.1 pc = .ok (.ifCond .ne off, 3)) (ht : (pc : Int) + off = (t : Int)) (hn : pc + 3 = n) : am_G E tb P T pc (i_if_ne t n) := by
  subst hn
  refine am_G.ofStep (fun ls st M x h => ?_)
  unfold i_if_ne at h
  dsimp only at h
  split at h
  · next a st' =>
    split at h
    · next hx =>
      cases h
      refine ⟨_, rfl, Nat.le_refl _, Nat.le_refl _, ?_⟩
      intro p l e R s m args below meth c Q H locs cells slots n0 k0 lsC X hS hR hL _ _ kk
      exact lv_if_ne X.1 X.2.1 hd ht (fun _ => kk H locs cells slots lsC (am_wS_t hS) hR hL) (fun q => absurd ((am_eq (y := 0) (am_wS_h hS) am_ok0).mp q) hx)
    · next hx =>
      cases h
      refine ⟨_, rfl, Nat.le_refl _, Nat.le_refl _, ?_⟩
      intro p l e R s m args below meth c Q H locs cells slots n0 k0 lsC X hS hR hL _ _ kk
      exact lv_if_ne X.1 X.2.1 hd ht (fun q => absurd ((am_eq (y := 0) (am_wS_h hS) am_ok0).mpr (Classical.not_not.mp hx)) q) (fun _ => kk H locs cells slots lsC (am_wS_t hS) hR hL)
  · cases h
theorem s_icmp_lt {off : Int} (hd : decode T.2.1 pc = .ok (.if_icmp .lt off, 3)) (ht : (pc : Int) + off = (t : Int)) (hn : pc + 3 = n) : am_G E tb P T pc (i_icmp_lt t n) := by
  subst hn
  refine am_G.ofStep (fun ls st M x h => ?_)
  unfold i_icmp_lt at h
  dsimp only at h
  split at h
  · next b a st' =>
    split at h
    · next hx =>
      cases h
      refine ⟨_, rfl, Nat.le_refl _, Nat.le_refl _, ?_⟩
      intro p l e R s m args below meth c Q H locs cells slots n0 k0 lsC X hS hR hL _ _ kk
      exact lv_icmp_lt X.1 X.2.1 hd ht (fun _ => kk H locs cells slots lsC (am_wS_t (am_wS_t hS)) hR hL) (fun q => absurd ((am_lt (am_wS_h (am_wS_t hS)) (am_wS_h hS)).mpr hx) q)
    · next hx =>
      cases h
      refine ⟨_, rfl, Nat.le_refl _, Nat.le_refl _, ?_⟩
      intro p l e R s m args below meth c Q H locs cells slots n0 k0 lsC X hS hR hL _ _ kk
      exact lv_icmp_lt X.1 X.2.1 hd ht (fun q => absurd ((am_lt (am_wS_h (am_wS_t hS)) (am_wS_h hS)).mp q) hx) (fun _ => kk H locs cells slots lsC (am_wS_t (am_wS_t hS)) hR hL)
  · cases h
theorem s_if_lt {off : Int} (hd : decode T.2.1 pc = .ok (.ifCond .lt off, 3)) (ht : (pc : Int) + off = (t : Int)) (hn : pc + 3 = n) : am_G E tb P T pc (i_if_lt t n) := by
  subst hn
  refine am_G.ofStep (fun ls st M x h => ?_)
  unfold i_if_lt at h
  dsimp only at h
  split at h
  · next a st' =>
    split at h
    · next hx =>
      cases h
      refine ⟨_, rfl, Nat.le_refl _, Nat.le_refl _, ?_⟩
      intro p l e R s m args below meth c Q H locs cells slots n0 k0 lsC X hS hR hL _ _ kk
      exact lv_if_lt X.1 X.2.1 hd ht (fun _ => kk H locs cells slots lsC (am_wS_t hS) hR hL) (fun q => absurd ((am_lt (am_wS_h hS) am_ok0).mpr hx) q)
    · next hx =>
      cases h
      refine ⟨_, rfl, Nat.le_refl _, Nat.le_refl _, ?_⟩
      intro p l e R s m args below meth c Q H locs cells slots n0 k0 lsC X hS hR hL _ _ kk
      exact lv_if_lt X.1 X.2.1 hd ht (fun q => absurd ((am_lt (am_wS_h hS) am_ok0).mp q) hx) (fun _ => kk H locs cells slots lsC (am_wS_t hS) hR hL)
  · cases h
theorem s_icmp_ge {off : Int} (hd : decode T.2.1 pc = .ok (.if_icmp .ge off, 3)) (ht : (pc : Int) + off = (t : Int)) (hn : pc + 3 = n) : am_G E tb P T pc (i_icmp_ge t n) := by
  subst hn
  refine am_G.ofStep (fun ls st M x h => ?_)
  unfold i_icmp_ge at h
  dsimp only at h
  split at h
  · next b a st' =>
    split at h
    · next hx =>
      cases h
      refine ⟨_, rfl, Nat.le_refl _, Nat.le_refl _, ?_⟩
      intro p l e R s m args below meth c Q H locs cells slots n0 k0 lsC X hS hR hL _ _ kk
      exact lv_icmp_ge X.1 X.2.1 hd ht (fun _ => kk H locs cells slots lsC (am_wS_t (am_wS_t hS)) hR hL) (fun q => absurd ((am_le (am_wS_h hS) (am_wS_h (am_wS_t hS))).mpr hx) q)
    · next hx =>
      cases h
      refine ⟨_, rfl, Nat.le_refl _, Nat.le_refl _, ?_⟩
      intro p l e R s m args below meth c Q H locs cells slots n0 k0 lsC X hS hR hL _ _ kk
      exact lv_icmp_ge X.1 X.2.1 hd ht (fun q => absurd ((am_le (am_wS_h hS) (am_wS_h (am_wS_t hS))).mp q) hx) (fun _ => kk H locs cells slots lsC (am_wS_t (am_wS_t hS)) hR hL)
  · cases h
theorem s_if_ge {off : Int} (hd : decode T.2.1 pc = .ok (.ifCond .ge off, 3)) (ht : (pc : Int) + off = (t : Int)) (hn : pc + 3 = n) : am_G E tb P T pc (i_if_ge t n) := by
  subst hn
  refine am_G.ofStep (fun ls st M x h => ?_)
  unfold i_if_ge at h
  dsimp only at h
  split at h
  · next a st' =>
    split at h
    · next hx =>
      cases h
      refine ⟨_, rfl, Nat.le_refl _, Nat.le_refl _, ?_⟩
      intro p l e R s m args below meth c Q H locs cells slots n0 k0 lsC X hS hR hL _ _ kk
      exact lv_if_ge X.1 X.2.1 hd ht (fun _ => kk H locs cells slots lsC (am_wS_t hS) hR hL) (fun q => absurd ((am_le am_ok0 (am_wS_h hS)).mpr hx) q)
    · next hx =>
      cases h
      refine ⟨_, rfl, Nat.le_refl _, Nat.le_refl _, ?_⟩
      intro p l e R s m args below meth c Q H locs cells slots n0 k0 lsC X hS hR hL _ _ kk
      exact lv_if_ge X.1 X.2.1 hd ht (fun q => absurd ((am_le am_ok0 (am_wS_h hS)).mp q) hx) (fun _ => kk H locs cells slots lsC (am_wS_t hS) hR hL)
  · cases h
theorem s_icmp_gt {off : Int} (hd : decode T.2.1 pc = .ok (.if_icmp .gt off, 3)) (ht : (pc : Int) + off = (t : Int)) (hn : pc + 3 = n) : am_G E tb P T pc (i_icmp_gt t n) := by
  subst hn
  refine am_G.ofStep (fun ls st M x h => ?_)
  unfold i_icmp_gt at h
  dsimp only at h
  split at h
  · next b a st' =>
    split at h
    · next hx =>
      cases h
      refine ⟨_, rfl, Nat.le_refl _, Nat.le_refl _, ?_⟩
      intro p l e R s m args below meth c Q H locs cells slots n0 k0 lsC X hS hR hL _ _ kk
      exact lv_icmp_gt X.1 X.2.1 hd ht (fun _ => kk H locs cells slots lsC (am_wS_t (am_wS_t hS)) hR hL) (fun q => absurd ((am_lt (am_wS_h hS) (am_wS_h (am_wS_t hS))).mpr hx) q)
    · next hx =>
      cases h
      refine ⟨_, rfl, Nat.le_refl _, Nat.le_refl _, ?_⟩
      intro p l e R s m args below meth c Q H locs cells slots n0 k0 lsC X hS hR hL _ _ kk
      exact lv_icmp_gt X.1 X.2.1 hd ht (fun q => absurd ((am_lt (am_wS_h hS) (am_wS_h (am_wS_t hS))).mp q) hx) (fun _ => kk H locs cells slots lsC (am_wS_t (am_wS_t hS)) hR hL)
  · cases h
theorem s_if_gt {off : Int} (hd : decode T.2.1 pc = .ok (.ifCond .gt off, 3)) (ht : (pc : Int) + off = (t : Int)) (hn : pc + 3 = n) : am_G E tb P T pc (i_if_gt t n) := by
  subst hn
  refine am_G.ofStep (fun ls st M x h => ?_)
  unfold i_if_gt at h
  dsimp only at h
  split at h
  · next a st' =>
    split at h
    · next hx =>
      cases h
      refine ⟨_, rfl, Nat.le_refl _, Nat.le_refl _, ?_⟩
      intro p l e R s m args below meth c Q H locs cells slots n0 k0 lsC X hS hR hL _ _ kk
      exact lv_if_gt X.1 X.2.1 hd ht (fun _ => kk H locs cells slots lsC (am_wS_t hS) hR hL) (fun q => absurd ((am_lt am_ok0 (am_wS_h hS)).mpr hx) q)
    · next hx =>
      cases h
      refine ⟨_, rfl, Nat.le_refl _, Nat.le_refl _, ?_⟩
      intro p l e R s m args below meth c Q H locs cells slots n0 k0 lsC X hS hR hL _ _ kk
      exact lv_if_gt X.1 X.2.1 hd ht (fun q => absurd ((am_lt am_ok0 (am_wS_h hS)).mp q) hx) (fun _ => kk H locs cells slots lsC (am_wS_t hS) hR hL)
  · cases h
theorem s_icmp_le {off : Int} (hd : decode T.2.1 pc = .ok (.if_icmp .le off, 3)) (ht : (pc : Int) + off = (t : Int)) (hn : pc + 3 = n) : am_G E tb P T pc (i_icmp_le t n) := by
  subst hn
  refine am_G.ofStep (fun ls st M x h => ?_)
  unfold i_icmp_le at h
  dsimp only at h
  split at h
  · next b a st' =>
    split at h
    · next hx =>
      cases h
      refine ⟨_, rfl, Nat.le_refl _, Nat.le_refl _, ?_⟩
      intro p l e R s m args below meth c Q H locs cells slots n0 k0 lsC X hS hR hL _ _ kk
      exact lv_icmp_le X.1 X.2.1 hd ht (fun _ => kk H locs cells slots lsC (am_wS_t (am_wS_t hS)) hR hL) (fun q => absurd ((am_le (am_wS_h (am_wS_t hS)) (am_wS_h hS)).mpr hx) q)
    · next hx =>
      cases h
      refine ⟨_, rfl, Nat.le_refl _, Nat.le_refl _, ?_⟩
      intro p l e R s m args below meth c Q H locs cells slots n0 k0 lsC X hS hR hL _ _ kk
      exact lv_icmp_le X.1 X.2.1 hd ht (fun q => absurd ((am_le (am_wS_h (am_wS_t hS)) (am_wS_h hS)).mp q) hx) (fun _ => kk H locs cells slots lsC (am_wS_t (am_wS_t hS)) hR hL)
  · cases h
theorem s_if_le {off : Int} (hd : decode T.2.1 pc = .ok (.ifCond .le off, 3)) (ht : (pc : Int) + off = (t : Int)) (hn : pc + 3 = n) : am_G E tb P T pc (i_if_le t n) := by
  subst hn
  refine am_G.ofStep (fun ls st M x h => ?_)
  unfold i_if_le at h
  dsimp only at h
  split at h
  · next a st' =>
    split at h
    · next hx =>
      cases h
      refine ⟨_, rfl, Nat.le_refl _, Nat.le_refl _, ?_⟩
      intro p l e R s m args below meth c Q H locs cells slots n0 k0 lsC X hS hR hL _ _ kk
      exact lv_if_le X.1 X.2.1 hd ht (fun _ => kk H locs cells slots lsC (am_wS_t hS) hR hL) (fun q => absurd ((am_le (am_wS_h hS) am_ok0).mpr hx) q)
    · next hx =>
      cases h
      refine ⟨_, rfl, Nat.le_refl _, Nat.le_refl _, ?_⟩
      intro p l e R s m args below meth c Q H locs cells slots n0 k0 lsC X hS hR hL _ _ kk
      exact lv_if_le X.1 X.2.1 hd ht (fun q => absurd ((am_le (am_wS_h hS) am_ok0).mp q) hx) (fun _ => kk H locs cells slots lsC (am_wS_t hS) hR hL)
  · cases h
theorem s_ifnull {off : Int} (hd : decode T.2.1 pc = .ok (.ifnull off, 3)) (ht : (pc : Int) + off = (t : Int)) (hn : pc + 3 = n) : am_G E tb P T pc (i_ifnull t n) := by
  subst hn
  refine am_G.ofStep (fun ls st M x h => ?_)
  unfold i_ifnull at h
  dsimp only at h
  split at h
  · next st' =>
    cases h
    refine ⟨_, rfl, Nat.le_refl _, Nat.le_refl _, ?_⟩
    intro p l e R s m args below meth c Q H locs cells slots n0 k0 lsC X hS hR hL _ _ kk
    exact lv_ifnullN X.1 X.2.1 hd ht (kk H locs cells slots lsC (am_wS_t hS) hR hL)
  · next a st' =>
    cases h
    refine ⟨_, rfl, Nat.le_refl _, Nat.le_refl _, ?_⟩
    intro p l e R s m args below meth c Q H locs cells slots n0 k0 lsC X hS hR hL _ _ kk
    exact lv_ifnull X.1 X.2.1 hd (kk H locs cells slots lsC (am_wS_t hS) hR hL)
  · cases h
theorem s_ifnonnull {off : Int} (hd : decode T.2.1 pc = .ok (.ifnonnull off, 3)) (ht : (pc : Int) + off = (t : Int)) (hn : pc + 3 = n) : am_G E tb P T pc (i_ifnonnull t n) := by
  subst hn
  refine am_G.ofStep (fun ls st M x h => ?_)
  unfold i_ifnonnull at h
  dsimp only at h
  split at h
  · next st' =>
    cases h
    refine ⟨_, rfl, Nat.le_refl _, Nat.le_refl _, ?_⟩
    intro p l e R s m args below meth c Q H locs cells slots n0 k0 lsC X hS hR hL _ _ kk
    exact lv_ifnonnullN X.1 X.2.1 hd (kk H locs cells slots lsC (am_wS_t hS) hR hL)
  · next a st' =>
    cases h
    refine ⟨_, rfl, Nat.le_refl _, Nat.le_refl _, ?_⟩
    intro p l e R s m args below meth c Q H locs cells slots n0 k0 lsC X hS hR hL _ _ kk
    exact lv_ifnonnull X.1 X.2.1 hd ht (kk H locs cells slots lsC (am_wS_t hS) hR hL)
  · cases h
def am_swc (pc : Nat) : List (Int × Int) → List (Int × Nat) → Bool
  | [], [] => true
  | u :: l, v :: l' => decide (u.1 = v.1) && (decide ((pc : Int) + u.2 = (v.2 : Int)) && am_swc pc l l')
  | _, _ => false
theorem am_swc_ok {pc t0 : Nat} {dflt x : Int} (hd : (pc : Int) + dflt = (t0 : Int)) : ∀ (l : List (Int × Int)) (l' : List (Int × Nat)), am_swc pc l l' = true → (pc : Int) + Op.lookupswitch.offset l dflt x = ((am_lk l' t0 x : Nat) : Int) := by
  intro l
  induction l with
  | nil =>
    intro l' h
    cases l' with
    | nil => exact hd
    | cons v l' => cases h
  | cons u l ih =>
    intro l' h
    cases l' with
    | nil => cases h
    | cons v l' =>
      obtain ⟨a, o⟩ := u
      simp only [am_swc, Bool.and_eq_true, decide_eq_true_eq] at h
      rw [Op.lookupswitch.offset_cons]
      unfold am_lk
      by_cases hx : x = v.1
      · rw [if_pos hx, if_pos (by rw [h.1, hx])]
        exact h.2.1
      · rw [if_neg hx, if_neg (fun q => hx (by rw [← h.1, q]))]
        exact ih l' h.2.2
theorem s_lsw {dflt : Int} {ps : Array (Int × Int)} {len t0 : Nat} {l' : List (Int × Nat)} (hd : decode T.2.1 pc = .ok (.lookupswitch dflt ps, len)) (hp : (ps.toList.zip (ps.toList.drop 1)).all (fun (a, next) => a.1 < next.1) = true) (h0 : (pc : Int) + dflt = (t0 : Int)) (hc : am_swc pc ps.toList l' = true) : am_G E tb P T pc (i_lsw l' t0) := by
  refine am_G.ofStep (fun ls st M x h => ?_)
  unfold i_lsw at h
  dsimp only at h
  split at h
  · next a st' =>
    cases h
    refine ⟨_, rfl, Nat.le_refl _, Nat.le_refl _, ?_⟩
    intro p l e R s m args below meth c Q H locs cells slots n0 k0 lsC X hS hR hL _ _ kk
    refine lv_lookup X.1 X.2.1 hd hp rfl ?_ (kk H locs cells slots lsC (am_wS_t hS) hR hL)
    rw [am_ti (am_wS_h hS)]
    exact am_swc_ok h0 ps.toList l' hc
  · cases h
theorem s_tsw {dflt lo hi : Int} {offs : Array Int} {len t0 : Nat} {ts : List Nat} (hd : decode T.2.1 pc = .ok (.tableswitch dflt lo hi offs, len)) (h0 : (pc : Int) + dflt = (t0 : Int)) (hh : hi + 1 = lo + ts.length) (hc : ∀ i, i < ts.length → ∃ o, offs[i]? = some o ∧ (pc : Int) + o = ((ts.getD i t0 : Nat) : Int)) : am_G E tb P T pc (i_tsw lo ts t0) := by
  refine am_G.ofStep (fun ls st M x h => ?_)
  unfold i_tsw at h
  dsimp only at h
  split at h
  · next a st' =>
    cases h
    refine ⟨_, rfl, Nat.le_refl _, Nat.le_refl _, ?_⟩
    intro p l e R s m args below meth c Q H locs cells slots n0 k0 lsC X hS hR hL _ _ kk
    have k2 := kk H locs cells slots lsC (am_wS_t hS) hR hL
    dsimp only at k2
    have ea := am_ti (am_wS_h hS)
    unfold am_ts at k2
    by_cases hr : lo ≤ a ∧ a < lo + ts.length
    · rw [if_pos hr] at k2
      obtain ⟨o, h1, h2⟩ := hc (a - lo).toNat (by omega)
      exact lv_tableIn X.1 X.2.1 hd (by rw [ea]; omega) (by rw [ea]; omega) (by rw [ea]; exact h1) h2 k2
    · rw [if_neg hr] at k2
      exact lv_tableOut X.1 X.2.1 hd (by rw [ea]; omega) h0 k2
  · cases h
/-- an end -/
theorem am_G.ofRet {f : am_I} (h : ∀ (ls : am_L) (st : List am_V) (M : am_M) (x : am_F ⊕ (am_Y ⊕ (Nat × List am_V × am_F))), f (pc, ls, st, M) = some x → ∃ r, x = .inr (.inl (r, M)) ∧ am_Rt T pc st r) : am_G E tb P T pc f := by
  refine ⟨fun ls st M => ⟨fun q hq => ?_, fun y hy => ?_, fun w hw => ?_⟩, fun ls st M => ⟨fun q hq => ?_, fun y hy => ?_, fun w hw => ?_⟩⟩
  · obtain ⟨r, e1, -⟩ := h ls st M _ hq
    cases e1
  · obtain ⟨r, e1, -⟩ := h ls st M _ hy
    cases e1
    rfl
  · obtain ⟨r, e1, -⟩ := h ls st M _ hw
    cases e1
  · obtain ⟨r, e1, -⟩ := h ls st M _ hq
    cases e1
  · obtain ⟨r, e1, h2⟩ := h ls st M _ hy
    cases e1
    exact h2
  · obtain ⟨r, e1, -⟩ := h ls st M _ hw
    cases e1
theorem s_iret (hd : decode T.2.1 pc = .ok (.ireturn, 1)) (hr : T.2.2.2 = some .int) : am_G E tb P T pc i_iret := by
  refine am_G.ofRet (fun ls st M x h => ?_)
  unfold i_iret at h
  dsimp only at h
  split at h
  · next z =>
    cases h
    exact ⟨_, rfl, Or.inl ⟨hd, z, rfl, rfl, Or.inl hr⟩⟩
  · cases h
theorem s_zret (hd : decode T.2.1 pc = .ok (.ireturn, 1)) (hr : T.2.2.2 = some .boolean) : am_G E tb P T pc i_zret := by
  refine am_G.ofRet (fun ls st M x h => ?_)
  unfold i_zret at h
  dsimp only at h
  split at h
  · next z =>
    split at h
    · next hz =>
      cases h
      exact ⟨_, rfl, Or.inl ⟨hd, z, rfl, rfl, Or.inr ⟨hr, hz⟩⟩⟩
    · cases h
  · cases h
theorem s_aret {rt : FieldType} (hd : decode T.2.1 pc = .ok (.areturn, 1)) (hr : T.2.2.2 = some rt) (ho : (∃ n, rt = .object n) ∨ ∃ t, rt = .array t) : am_G E tb P T pc i_aret := by
  refine am_G.ofRet (fun ls st M x h => ?_)
  unfold i_aret at h
  dsimp only at h
  split at h
  · next v =>
    cases h
    exact ⟨_, rfl, Or.inr (Or.inl ⟨hd, v, rfl, rfl, rt, hr, ho⟩)⟩
  · cases h
theorem s_vret (hd : decode T.2.1 pc = .ok (.return_, 1)) (hr : T.2.2.2 = none) : am_G E tb P T pc i_vret := by
  refine am_G.ofRet (fun ls st M x h => ?_)
  unfold i_vret at h
  dsimp only at h
  split at h
  · cases h
    exact ⟨_, rfl, Or.inr (Or.inr ⟨hd, rfl, rfl, hr⟩)⟩
  · cases h
end AmS
