/-! printed by wip/whole/gen/prog.py: each instruction against the abstract one -/
set_option maxRecDepth 20000 in
theorem ga_M_init {D : va_G} {dA : Nat → ClassId} {h b L : Nat} {xs : Nat → Int32} (hN : am_nN (am_En D dA h b L xs)) : am_all (am_En D dA h b L xs) mv_tb mv_P tM_init kM_init := by
  unfold kM_init
  refine am_all.c (s_aload_n (kf := 0) (by decide +kernel) rfl rfl) ?_
  refine am_all.c (s_obj mv_P0 tw_551 tw_53 tw_54 (by decide +kernel) rfl) ?_
  refine am_all.c (s_aload_n (kf := 0) (by decide +kernel) rfl rfl) ?_
  refine am_all.c (s_sipush (by decide +kernel) (by decide +kernel) (by decide) rfl) ?_
  refine am_all.c (s_newa (at0 := .int) rfl rfl (Or.inl rfl) tw_81 (by decide +kernel) rfl) ?_
  refine am_all.c (s_put (C := cn_M) (Tf := ft_M) (N := 21) (ty := .array .int) rfl fi_M fy_M fo_M fn_M (by decide) tw_554 (Or.inr ⟨rfl, rfl, rfl⟩) (by decide +kernel) (Or.inr (Or.inr ⟨rfl, Or.inr ⟨_, rfl⟩⟩)) (by decide +kernel) rfl) ?_
  refine am_all.c (s_aload_n (kf := 0) (by decide +kernel) rfl rfl) ?_
  refine am_all.c (s_iconst (by decide +kernel) (by decide) rfl) ?_
  refine am_all.c (s_newa (at0 := .int) rfl rfl (Or.inl rfl) tw_81 (by decide +kernel) rfl) ?_
  refine am_all.c (s_put (C := cn_M) (Tf := ft_M) (N := 21) (ty := .array .int) rfl fi_M fy_M fo_M fn_M (by decide) tw_555 (Or.inr ⟨rfl, rfl, rfl⟩) (by decide +kernel) (Or.inr (Or.inr ⟨rfl, Or.inr ⟨_, rfl⟩⟩)) (by decide +kernel) rfl) ?_
  refine am_all.c (s_aload_n (kf := 0) (by decide +kernel) rfl rfl) ?_
  refine am_all.c (s_bipush (by decide +kernel) (by decide +kernel) (by decide) rfl) ?_
  refine am_all.c (s_newa (at0 := .int) rfl rfl (Or.inl rfl) tw_81 (by decide +kernel) rfl) ?_
  refine am_all.c (s_put (C := cn_M) (Tf := ft_M) (N := 21) (ty := .array .int) rfl fi_M fy_M fo_M fn_M (by decide) tw_556 (Or.inr ⟨rfl, rfl, rfl⟩) (by decide +kernel) (Or.inr (Or.inr ⟨rfl, Or.inr ⟨_, rfl⟩⟩)) (by decide +kernel) rfl) ?_
  refine am_all.c (s_aload_n (kf := 0) (by decide +kernel) rfl rfl) ?_
  refine am_all.c (s_iconst (by decide +kernel) (by decide) rfl) ?_
  refine am_all.c (s_newa (at0 := .int) rfl rfl (Or.inl rfl) tw_81 (by decide +kernel) rfl) ?_
  refine am_all.c (s_put (C := cn_M) (Tf := ft_M) (N := 21) (ty := .array .int) rfl fi_M fy_M fo_M fn_M (by decide) tw_557 (Or.inr ⟨rfl, rfl, rfl⟩) (by decide +kernel) (Or.inr (Or.inr ⟨rfl, Or.inr ⟨_, rfl⟩⟩)) (by decide +kernel) rfl) ?_
  refine am_all.c (s_aload_n (kf := 0) (by decide +kernel) rfl rfl) ?_
  refine am_all.c (s_iconst (by decide +kernel) (by decide) rfl) ?_
  refine am_all.c (s_newa (at0 := .int) rfl rfl (Or.inl rfl) tw_81 (by decide +kernel) rfl) ?_
  refine am_all.c (s_put (C := cn_M) (Tf := ft_M) (N := 21) (ty := .array .int) rfl fi_M fy_M fo_M fn_M (by decide) tw_558 (Or.inr ⟨rfl, rfl, rfl⟩) (by decide +kernel) (Or.inr (Or.inr ⟨rfl, Or.inr ⟨_, rfl⟩⟩)) (by decide +kernel) rfl) ?_
  refine am_all.c (s_aload_n (kf := 0) (by decide +kernel) rfl rfl) ?_
  refine am_all.c (s_iconst (by decide +kernel) (by decide) rfl) ?_
  refine am_all.c (s_newa (at0 := .int) rfl rfl (Or.inl rfl) tw_81 (by decide +kernel) rfl) ?_
  refine am_all.c (s_put (C := cn_M) (Tf := ft_M) (N := 21) (ty := .array .int) rfl fi_M fy_M fo_M fn_M (by decide) tw_559 (Or.inr ⟨rfl, rfl, rfl⟩) (by decide +kernel) (Or.inr (Or.inr ⟨rfl, Or.inr ⟨_, rfl⟩⟩)) (by decide +kernel) rfl) ?_
  refine am_all.c (s_aload_n (kf := 0) (by decide +kernel) rfl rfl) ?_
  refine am_all.c (s_iconst (by decide +kernel) (by decide) rfl) ?_
  refine am_all.c (s_newa (at0 := .boolean) rfl rfl (Or.inr rfl) tw_173 (by decide +kernel) rfl) ?_
  refine am_all.c (s_put (C := cn_M) (Tf := ft_M) (N := 21) (ty := .array .boolean) rfl fi_M fy_M fo_M fn_M (by decide) tw_560 (Or.inr ⟨rfl, rfl, rfl⟩) (by decide +kernel) (Or.inr (Or.inr ⟨rfl, Or.inr ⟨_, rfl⟩⟩)) (by decide +kernel) rfl) ?_
  refine am_all.c (s_aload_n (kf := 0) (by decide +kernel) rfl rfl) ?_
  refine am_all.c (s_iconst (by decide +kernel) (by decide) rfl) ?_
  refine am_all.c (s_newa (at0 := .int) rfl rfl (Or.inl rfl) tw_81 (by decide +kernel) rfl) ?_
  refine am_all.c (s_put (C := cn_M) (Tf := ft_M) (N := 21) (ty := .array .int) rfl fi_M fy_M fo_M fn_M (by decide) tw_561 (Or.inr ⟨rfl, rfl, rfl⟩) (by decide +kernel) (Or.inr (Or.inr ⟨rfl, Or.inr ⟨_, rfl⟩⟩)) (by decide +kernel) rfl) ?_
  refine am_all.c (s_aload_n (kf := 0) (by decide +kernel) rfl rfl) ?_
  refine am_all.c (s_bipush (by decide +kernel) (by decide +kernel) (by decide) rfl) ?_
  refine am_all.c (s_newa (at0 := .int) rfl rfl (Or.inl rfl) tw_81 (by decide +kernel) rfl) ?_
  refine am_all.c (s_put (C := cn_M) (Tf := ft_M) (N := 21) (ty := .array .int) rfl fi_M fy_M fo_M fn_M (by decide) tw_562 (Or.inr ⟨rfl, rfl, rfl⟩) (by decide +kernel) (Or.inr (Or.inr ⟨rfl, Or.inr ⟨_, rfl⟩⟩)) (by decide +kernel) rfl) ?_
  refine am_all.c (s_aload_n (kf := 0) (by decide +kernel) rfl rfl) ?_
  refine am_all.c (s_bipush (by decide +kernel) (by decide +kernel) (by decide) rfl) ?_
  refine am_all.c (s_newa (at0 := .int) rfl rfl (Or.inl rfl) tw_81 (by decide +kernel) rfl) ?_
  refine am_all.c (s_put (C := cn_M) (Tf := ft_M) (N := 21) (ty := .array .int) rfl fi_M fy_M fo_M fn_M (by decide) tw_563 (Or.inr ⟨rfl, rfl, rfl⟩) (by decide +kernel) (Or.inr (Or.inr ⟨rfl, Or.inr ⟨_, rfl⟩⟩)) (by decide +kernel) rfl) ?_
  refine am_all.c (s_aload_n (kf := 0) (by decide +kernel) rfl rfl) ?_
  refine am_all.c (s_iconst (by decide +kernel) (by decide) rfl) ?_
  refine am_all.c (s_newa (at0 := .int) rfl rfl (Or.inl rfl) tw_81 (by decide +kernel) rfl) ?_
  refine am_all.c (s_put (C := cn_M) (Tf := ft_M) (N := 21) (ty := .array .int) rfl fi_M fy_M fo_M fn_M (by decide) tw_564 (Or.inr ⟨rfl, rfl, rfl⟩) (by decide +kernel) (Or.inr (Or.inr ⟨rfl, Or.inr ⟨_, rfl⟩⟩)) (by decide +kernel) rfl) ?_
  refine am_all.c (s_aload_n (kf := 0) (by decide +kernel) rfl rfl) ?_
  refine am_all.c (s_iconst (by decide +kernel) (by decide) rfl) ?_
  refine am_all.c (s_newa (at0 := .int) rfl rfl (Or.inl rfl) tw_81 (by decide +kernel) rfl) ?_
  refine am_all.c (s_put (C := cn_M) (Tf := ft_M) (N := 21) (ty := .array .int) rfl fi_M fy_M fo_M fn_M (by decide) tw_565 (Or.inr ⟨rfl, rfl, rfl⟩) (by decide +kernel) (Or.inr (Or.inr ⟨rfl, Or.inr ⟨_, rfl⟩⟩)) (by decide +kernel) rfl) ?_
  refine am_all.c (s_aload_n (kf := 0) (by decide +kernel) rfl rfl) ?_
  refine am_all.c (s_sipush (by decide +kernel) (by decide +kernel) (by decide) rfl) ?_
  refine am_all.c (s_newa (at0 := .int) rfl rfl (Or.inl rfl) tw_81 (by decide +kernel) rfl) ?_
  refine am_all.c (s_put (C := cn_M) (Tf := ft_M) (N := 21) (ty := .array .int) rfl fi_M fy_M fo_M fn_M (by decide) tw_566 (Or.inr ⟨rfl, rfl, rfl⟩) (by decide +kernel) (Or.inr (Or.inr ⟨rfl, Or.inr ⟨_, rfl⟩⟩)) (by decide +kernel) rfl) ?_
  refine am_all.c (s_aload_n (kf := 0) (by decide +kernel) rfl rfl) ?_
  refine am_all.c (s_bipush (by decide +kernel) (by decide +kernel) (by decide) rfl) ?_
  refine am_all.c (s_newa (at0 := .int) rfl rfl (Or.inl rfl) tw_81 (by decide +kernel) rfl) ?_
  refine am_all.c (s_put (C := cn_M) (Tf := ft_M) (N := 21) (ty := .array .int) rfl fi_M fy_M fo_M fn_M (by decide) tw_568 (Or.inr ⟨rfl, rfl, rfl⟩) (by decide +kernel) (Or.inr (Or.inr ⟨rfl, Or.inr ⟨_, rfl⟩⟩)) (by decide +kernel) rfl) ?_
  refine am_all.c (s_aload_n (kf := 0) (by decide +kernel) rfl rfl) ?_
  refine am_all.c (s_bipush (by decide +kernel) (by decide +kernel) (by decide) rfl) ?_
  refine am_all.c (s_newa (at0 := .int) rfl rfl (Or.inl rfl) tw_81 (by decide +kernel) rfl) ?_
  refine am_all.c (s_put (C := cn_M) (Tf := ft_M) (N := 21) (ty := .array .int) rfl fi_M fy_M fo_M fn_M (by decide) tw_570 (Or.inr ⟨rfl, rfl, rfl⟩) (by decide +kernel) (Or.inr (Or.inr ⟨rfl, Or.inr ⟨_, rfl⟩⟩)) (by decide +kernel) rfl) ?_
  refine am_all.c (s_aload_n (kf := 0) (by decide +kernel) rfl rfl) ?_
  refine am_all.c (s_bipush (by decide +kernel) (by decide +kernel) (by decide) rfl) ?_
  refine am_all.c (s_newa (at0 := .boolean) rfl rfl (Or.inr rfl) tw_173 (by decide +kernel) rfl) ?_
  refine am_all.c (s_put (C := cn_M) (Tf := ft_M) (N := 21) (ty := .array .boolean) rfl fi_M fy_M fo_M fn_M (by decide) tw_571 (Or.inr ⟨rfl, rfl, rfl⟩) (by decide +kernel) (Or.inr (Or.inr ⟨rfl, Or.inr ⟨_, rfl⟩⟩)) (by decide +kernel) rfl) ?_
  refine am_all.c (s_aload_n (kf := 0) (by decide +kernel) rfl rfl) ?_
  refine am_all.c (s_bipush (by decide +kernel) (by decide +kernel) (by decide) rfl) ?_
  refine am_all.c (s_newa (at0 := .int) rfl rfl (Or.inl rfl) tw_81 (by decide +kernel) rfl) ?_
  refine am_all.c (s_put (C := cn_M) (Tf := ft_M) (N := 21) (ty := .array .int) rfl fi_M fy_M fo_M fn_M (by decide) tw_572 (Or.inr ⟨rfl, rfl, rfl⟩) (by decide +kernel) (Or.inr (Or.inr ⟨rfl, Or.inr ⟨_, rfl⟩⟩)) (by decide +kernel) rfl) ?_
  refine am_all.c (s_iconst (by decide +kernel) (by decide) rfl) ?_
  refine am_all.c (s_istore_n (kf := 1) (by decide +kernel) rfl rfl) ?_
  refine am_all.c (s_iload_n (kf := 1) (by decide +kernel) rfl rfl) ?_
  refine am_all.c (s_iconst (by decide +kernel) (by decide) rfl) ?_
  refine am_all.c (s_icmp_ge (off := 23) (by decide +kernel) (by decide) rfl) ?_
  refine am_all.c (s_aload_n (kf := 0) (by decide +kernel) rfl rfl) ?_
  refine am_all.c (s_get (C := cn_M) (Tf := ft_M) (N := 21) rfl fi_M (by decide) tw_557 (by decide +kernel) rfl) ?_
  refine am_all.c (s_iload_n (kf := 1) (by decide +kernel) rfl rfl) ?_
  refine am_all.c (s_iconst (by decide +kernel) (by decide) rfl) ?_
  refine am_all.c (s_iast rfl (by decide +kernel) rfl) ?_
  refine am_all.c (s_aload_n (kf := 0) (by decide +kernel) rfl rfl) ?_
  refine am_all.c (s_get (C := cn_M) (Tf := ft_M) (N := 21) rfl fi_M (by decide) tw_558 (by decide +kernel) rfl) ?_
  refine am_all.c (s_iload_n (kf := 1) (by decide +kernel) rfl rfl) ?_
  refine am_all.c (s_iconst (by decide +kernel) (by decide) rfl) ?_
  refine am_all.c (s_iast rfl (by decide +kernel) rfl) ?_
  refine am_all.c (s_iinc (by decide +kernel) rfl) ?_
  refine am_all.c (s_goto (off := -22) (by decide +kernel) (by decide)) ?_
  refine am_all.c (s_iconst (by decide +kernel) (by decide) rfl) ?_
  refine am_all.c (s_istore_n (kf := 1) (by decide +kernel) rfl rfl) ?_
  refine am_all.c (s_iload_n (kf := 1) (by decide +kernel) rfl rfl) ?_
  refine am_all.c (s_iconst (by decide +kernel) (by decide) rfl) ?_
  refine am_all.c (s_icmp_ge (off := 16) (by decide +kernel) (by decide) rfl) ?_
  refine am_all.c (s_aload_n (kf := 0) (by decide +kernel) rfl rfl) ?_
  refine am_all.c (s_get (C := cn_M) (Tf := ft_M) (N := 21) rfl fi_M (by decide) tw_559 (by decide +kernel) rfl) ?_
  refine am_all.c (s_iload_n (kf := 1) (by decide +kernel) rfl rfl) ?_
  refine am_all.c (s_iconst (by decide +kernel) (by decide) rfl) ?_
  refine am_all.c (s_iast rfl (by decide +kernel) rfl) ?_
  refine am_all.c (s_iinc (by decide +kernel) rfl) ?_
  refine am_all.c (s_goto (off := -15) (by decide +kernel) (by decide)) ?_
  refine am_all.c (s_vret (by decide +kernel) rfl) ?_
  exact trivial
set_option maxRecDepth 20000 in
theorem ga_M_in {D : va_G} {dA : Nat → ClassId} {h b L : Nat} {xs : Nat → Int32} (hN : am_nN (am_En D dA h b L xs)) : am_all (am_En D dA h b L xs) mv_tb mv_P tM_in kM_in := by
  unfold kM_in
  refine am_all.c (s_iload_n (kf := 0) (by decide +kernel) rfl rfl) ?_
  refine am_all.c (s_iload_n (kf := 1) (by decide +kernel) rfl rfl) ?_
  refine am_all.c (s_icmp_lt (off := 12) (by decide +kernel) (by decide) rfl) ?_
  refine am_all.c (s_iload_n (kf := 0) (by decide +kernel) rfl rfl) ?_
  refine am_all.c (s_iload_n (kf := 2) (by decide +kernel) rfl rfl) ?_
  refine am_all.c (s_icmp_gt (off := 7) (by decide +kernel) (by decide) rfl) ?_
  refine am_all.c (s_iconst (by decide +kernel) (by decide) rfl) ?_
  refine am_all.c (s_goto (off := 4) (by decide +kernel) (by decide)) ?_
  refine am_all.c (s_iconst (by decide +kernel) (by decide) rfl) ?_
  refine am_all.c (s_zret (by decide +kernel) rfl) ?_
  exact trivial
set_option maxRecDepth 20000 in
theorem ga_M_place {D : va_G} {dA : Nat → ClassId} {h b L : Nat} {xs : Nat → Int32} (hN : am_nN (am_En D dA h b L xs)) : am_all (am_En D dA h b L xs) mv_tb mv_P tM_place kM_place := by
  unfold kM_place
  refine am_all.c (s_iconst (by decide +kernel) (by decide) rfl) ?_
  refine am_all.c (s_istore_n (kf := 3) (by decide +kernel) rfl rfl) ?_
  refine am_all.c (s_iload_n (kf := 3) (by decide +kernel) rfl rfl) ?_
  refine am_all.c (s_aload_n (kf := 0) (by decide +kernel) rfl rfl) ?_
  refine am_all.c (s_get (C := cn_M) (Tf := ft_M) (N := 21) rfl fi_M (by decide) tw_555 (by decide +kernel) rfl) ?_
  refine am_all.c (s_iload_n (kf := 1) (by decide +kernel) rfl rfl) ?_
  refine am_all.c (s_iald rfl (by decide +kernel) rfl) ?_
  refine am_all.c (s_icmp_ge (off := 28) (by decide +kernel) (by decide) rfl) ?_
  refine am_all.c (s_aload_n (kf := 0) (by decide +kernel) rfl rfl) ?_
  refine am_all.c (s_get (C := cn_M) (Tf := ft_M) (N := 21) rfl fi_M (by decide) tw_556 (by decide +kernel) rfl) ?_
  refine am_all.c (s_bipush (by decide +kernel) (by decide +kernel) (by decide) rfl) ?_
  refine am_all.c (s_iload_n (kf := 1) (by decide +kernel) rfl rfl) ?_
  refine am_all.c (s_imul (by decide +kernel) rfl) ?_
  refine am_all.c (s_iconst (by decide +kernel) (by decide) rfl) ?_
  refine am_all.c (s_iload_n (kf := 3) (by decide +kernel) rfl rfl) ?_
  refine am_all.c (s_imul (by decide +kernel) rfl) ?_
  refine am_all.c (s_iadd (by decide +kernel) rfl) ?_
  refine am_all.c (s_iald rfl (by decide +kernel) rfl) ?_
  refine am_all.c (s_iload_n (kf := 2) (by decide +kernel) rfl rfl) ?_
  refine am_all.c (s_icmp_ne (off := 5) (by decide +kernel) (by decide) rfl) ?_
  refine am_all.c (s_iload_n (kf := 3) (by decide +kernel) rfl rfl) ?_
  refine am_all.c (s_iret (by decide +kernel) rfl) ?_
  refine am_all.c (s_iinc (by decide +kernel) rfl) ?_
  refine am_all.c (s_goto (off := -32) (by decide +kernel) (by decide)) ?_
  refine am_all.c (s_iconst (by decide +kernel) (by decide) rfl) ?_
  refine am_all.c (s_iret (by decide +kernel) rfl) ?_
  exact trivial
set_option maxRecDepth 20000 in
theorem ga_M_flagsOf {D : va_G} {dA : Nat → ClassId} {h b L : Nat} {xs : Nat → Int32} (hN : am_nN (am_En D dA h b L xs)) : am_all (am_En D dA h b L xs) mv_tb mv_P tM_flagsOf kM_flagsOf := by
  unfold kM_flagsOf
  refine am_all.c (s_aload_n (kf := 0) (by decide +kernel) rfl rfl) ?_
  refine am_all.c (s_get (C := cn_M) (Tf := ft_M) (N := 21) rfl fi_M (by decide) tw_556 (by decide +kernel) rfl) ?_
  refine am_all.c (s_bipush (by decide +kernel) (by decide +kernel) (by decide) rfl) ?_
  refine am_all.c (s_iload_n (kf := 1) (by decide +kernel) rfl rfl) ?_
  refine am_all.c (s_imul (by decide +kernel) rfl) ?_
  refine am_all.c (s_iconst (by decide +kernel) (by decide) rfl) ?_
  refine am_all.c (s_aload_n (kf := 0) (by decide +kernel) rfl rfl) ?_
  refine am_all.c (s_iload_n (kf := 1) (by decide +kernel) rfl rfl) ?_
  refine am_all.c (s_iload_n (kf := 2) (by decide +kernel) rfl rfl) ?_
  refine am_all.c (s_callV (q := (cn_M, ft_M, 21)) (by decide) (ce_M_place hN) rfl rfl tw_635 tw_637 tw_24 (by decide +kernel) rfl) ?_
  refine am_all.c (s_imul (by decide +kernel) rfl) ?_
  refine am_all.c (s_iadd (by decide +kernel) rfl) ?_
  refine am_all.c (s_iconst (by decide +kernel) (by decide) rfl) ?_
  refine am_all.c (s_iadd (by decide +kernel) rfl) ?_
  refine am_all.c (s_iald rfl (by decide +kernel) rfl) ?_
  refine am_all.c (s_iret (by decide +kernel) rfl) ?_
  exact trivial
set_option maxRecDepth 20000 in
theorem ga_M_apply {D : va_G} {dA : Nat → ClassId} {h b L : Nat} {xs : Nat → Int32} (hN : am_nN (am_En D dA h b L xs)) : am_all (am_En D dA h b L xs) mv_tb mv_P tM_apply kM_apply := by
  unfold kM_apply
  refine am_all.c (s_iconst (by decide +kernel) (by decide) rfl) ?_
  refine am_all.c (s_iload_n (kf := 1) (by decide +kernel) rfl rfl) ?_
  refine am_all.c (s_imul (by decide +kernel) rfl) ?_
  refine am_all.c (s_istore_n (kf := 2) (by decide +kernel) rfl rfl) ?_
  refine am_all.c (s_aload_n (kf := 0) (by decide +kernel) rfl rfl) ?_
  refine am_all.c (s_get (C := cn_M) (Tf := ft_M) (N := 21) rfl fi_M (by decide) tw_554 (by decide +kernel) rfl) ?_
  refine am_all.c (s_iload_n (kf := 2) (by decide +kernel) rfl rfl) ?_
  refine am_all.c (s_iconst (by decide +kernel) (by decide) rfl) ?_
  refine am_all.c (s_iadd (by decide +kernel) rfl) ?_
  refine am_all.c (s_iald rfl (by decide +kernel) rfl) ?_
  refine am_all.c (s_istore_n (kf := 3) (by decide +kernel) rfl rfl) ?_
  refine am_all.c (s_aload_n (kf := 0) (by decide +kernel) rfl rfl) ?_
  refine am_all.c (s_get (C := cn_M) (Tf := ft_M) (N := 21) rfl fi_M (by decide) tw_554 (by decide +kernel) rfl) ?_
  refine am_all.c (s_iload_n (kf := 2) (by decide +kernel) rfl rfl) ?_
  refine am_all.c (s_iconst (by decide +kernel) (by decide) rfl) ?_
  refine am_all.c (s_iadd (by decide +kernel) rfl) ?_
  refine am_all.c (s_iald rfl (by decide +kernel) rfl) ?_
  refine am_all.c (s_istore (by decide +kernel) rfl) ?_
  refine am_all.c (s_aload_n (kf := 0) (by decide +kernel) rfl rfl) ?_
  refine am_all.c (s_get (C := cn_M) (Tf := ft_M) (N := 21) rfl fi_M (by decide) tw_554 (by decide +kernel) rfl) ?_
  refine am_all.c (s_iload_n (kf := 2) (by decide +kernel) rfl rfl) ?_
  refine am_all.c (s_iald rfl (by decide +kernel) rfl) ?_
  refine am_all.c (s_iconst (by decide +kernel) (by decide) rfl) ?_
  refine am_all.c (s_icmp_ne (off := 32) (by decide +kernel) (by decide) rfl) ?_
  refine am_all.c (s_aload_n (kf := 0) (by decide +kernel) rfl rfl) ?_
  refine am_all.c (s_get (C := cn_M) (Tf := ft_M) (N := 21) rfl fi_M (by decide) tw_556 (by decide +kernel) rfl) ?_
  refine am_all.c (s_bipush (by decide +kernel) (by decide +kernel) (by decide) rfl) ?_
  refine am_all.c (s_iload_n (kf := 3) (by decide +kernel) rfl rfl) ?_
  refine am_all.c (s_imul (by decide +kernel) rfl) ?_
  refine am_all.c (s_iconst (by decide +kernel) (by decide) rfl) ?_
  refine am_all.c (s_aload_n (kf := 0) (by decide +kernel) rfl rfl) ?_
  refine am_all.c (s_iload_n (kf := 3) (by decide +kernel) rfl rfl) ?_
  refine am_all.c (s_iload (by decide +kernel) rfl) ?_
  refine am_all.c (s_callV (q := (cn_M, ft_M, 21)) (by decide) (ce_M_place hN) rfl rfl tw_635 tw_637 tw_24 (by decide +kernel) rfl) ?_
  refine am_all.c (s_imul (by decide +kernel) rfl) ?_
  refine am_all.c (s_iadd (by decide +kernel) rfl) ?_
  refine am_all.c (s_iconst (by decide +kernel) (by decide) rfl) ?_
  refine am_all.c (s_iadd (by decide +kernel) rfl) ?_
  refine am_all.c (s_aload_n (kf := 0) (by decide +kernel) rfl rfl) ?_
  refine am_all.c (s_get (C := cn_M) (Tf := ft_M) (N := 21) rfl fi_M (by decide) tw_554 (by decide +kernel) rfl) ?_
  refine am_all.c (s_iload_n (kf := 2) (by decide +kernel) rfl rfl) ?_
  refine am_all.c (s_iconst (by decide +kernel) (by decide) rfl) ?_
  refine am_all.c (s_iadd (by decide +kernel) rfl) ?_
  refine am_all.c (s_iald rfl (by decide +kernel) rfl) ?_
  refine am_all.c (s_iast rfl (by decide +kernel) rfl) ?_
  refine am_all.c (s_aload_n (kf := 0) (by decide +kernel) rfl rfl) ?_
  refine am_all.c (s_get (C := cn_M) (Tf := ft_M) (N := 21) rfl fi_M (by decide) tw_554 (by decide +kernel) rfl) ?_
  refine am_all.c (s_iload_n (kf := 2) (by decide +kernel) rfl rfl) ?_
  refine am_all.c (s_iald rfl (by decide +kernel) rfl) ?_
  refine am_all.c (s_iconst (by decide +kernel) (by decide) rfl) ?_
  refine am_all.c (s_icmp_ne (off := 73) (by decide +kernel) (by decide) rfl) ?_
  refine am_all.c (s_aload_n (kf := 0) (by decide +kernel) rfl rfl) ?_
  refine am_all.c (s_iload_n (kf := 3) (by decide +kernel) rfl rfl) ?_
  refine am_all.c (s_iload (by decide +kernel) rfl) ?_
  refine am_all.c (s_callV (q := (cn_M, ft_M, 21)) (by decide) (ce_M_place hN) rfl rfl tw_635 tw_637 tw_24 (by decide +kernel) rfl) ?_
  refine am_all.c (s_istore (by decide +kernel) rfl) ?_
  refine am_all.c (s_aload_n (kf := 0) (by decide +kernel) rfl rfl) ?_
  refine am_all.c (s_get (C := cn_M) (Tf := ft_M) (N := 21) rfl fi_M (by decide) tw_555 (by decide +kernel) rfl) ?_
  refine am_all.c (s_iload_n (kf := 3) (by decide +kernel) rfl rfl) ?_
  refine am_all.c (s_dup2 (by decide +kernel) rfl) ?_
  refine am_all.c (s_iald rfl (by decide +kernel) rfl) ?_
  refine am_all.c (s_iconst (by decide +kernel) (by decide) rfl) ?_
  refine am_all.c (s_isub (by decide +kernel) rfl) ?_
  refine am_all.c (s_iast rfl (by decide +kernel) rfl) ?_
  refine am_all.c (s_bipush (by decide +kernel) (by decide +kernel) (by decide) rfl) ?_
  refine am_all.c (s_iload_n (kf := 3) (by decide +kernel) rfl rfl) ?_
  refine am_all.c (s_imul (by decide +kernel) rfl) ?_
  refine am_all.c (s_iconst (by decide +kernel) (by decide) rfl) ?_
  refine am_all.c (s_iload (by decide +kernel) rfl) ?_
  refine am_all.c (s_imul (by decide +kernel) rfl) ?_
  refine am_all.c (s_iadd (by decide +kernel) rfl) ?_
  refine am_all.c (s_istore (by decide +kernel) rfl) ?_
  refine am_all.c (s_iload (by decide +kernel) rfl) ?_
  refine am_all.c (s_bipush (by decide +kernel) (by decide +kernel) (by decide) rfl) ?_
  refine am_all.c (s_iload_n (kf := 3) (by decide +kernel) rfl rfl) ?_
  refine am_all.c (s_imul (by decide +kernel) rfl) ?_
  refine am_all.c (s_iconst (by decide +kernel) (by decide) rfl) ?_
  refine am_all.c (s_aload_n (kf := 0) (by decide +kernel) rfl rfl) ?_
  refine am_all.c (s_get (C := cn_M) (Tf := ft_M) (N := 21) rfl fi_M (by decide) tw_555 (by decide +kernel) rfl) ?_
  refine am_all.c (s_iload_n (kf := 3) (by decide +kernel) rfl rfl) ?_
  refine am_all.c (s_iald rfl (by decide +kernel) rfl) ?_
  refine am_all.c (s_imul (by decide +kernel) rfl) ?_
  refine am_all.c (s_iadd (by decide +kernel) rfl) ?_
  refine am_all.c (s_icmp_ge (off := 25) (by decide +kernel) (by decide) rfl) ?_
  refine am_all.c (s_aload_n (kf := 0) (by decide +kernel) rfl rfl) ?_
  refine am_all.c (s_get (C := cn_M) (Tf := ft_M) (N := 21) rfl fi_M (by decide) tw_556 (by decide +kernel) rfl) ?_
  refine am_all.c (s_iload (by decide +kernel) rfl) ?_
  refine am_all.c (s_aload_n (kf := 0) (by decide +kernel) rfl rfl) ?_
  refine am_all.c (s_get (C := cn_M) (Tf := ft_M) (N := 21) rfl fi_M (by decide) tw_556 (by decide +kernel) rfl) ?_
  refine am_all.c (s_iload (by decide +kernel) rfl) ?_
  refine am_all.c (s_iconst (by decide +kernel) (by decide) rfl) ?_
  refine am_all.c (s_iadd (by decide +kernel) rfl) ?_
  refine am_all.c (s_iald rfl (by decide +kernel) rfl) ?_
  refine am_all.c (s_iast rfl (by decide +kernel) rfl) ?_
  refine am_all.c (s_iinc (by decide +kernel) rfl) ?_
  refine am_all.c (s_goto (off := -37) (by decide +kernel) (by decide)) ?_
  refine am_all.c (s_aload_n (kf := 0) (by decide +kernel) rfl rfl) ?_
  refine am_all.c (s_get (C := cn_M) (Tf := ft_M) (N := 21) rfl fi_M (by decide) tw_554 (by decide +kernel) rfl) ?_
  refine am_all.c (s_iload_n (kf := 2) (by decide +kernel) rfl rfl) ?_
  refine am_all.c (s_iald rfl (by decide +kernel) rfl) ?_
  refine am_all.c (s_iconst (by decide +kernel) (by decide) rfl) ?_
  refine am_all.c (s_icmp_ne (off := 81) (by decide +kernel) (by decide) rfl) ?_
  refine am_all.c (s_bipush (by decide +kernel) (by decide +kernel) (by decide) rfl) ?_
  refine am_all.c (s_iload_n (kf := 3) (by decide +kernel) rfl rfl) ?_
  refine am_all.c (s_imul (by decide +kernel) rfl) ?_
  refine am_all.c (s_iconst (by decide +kernel) (by decide) rfl) ?_
  refine am_all.c (s_aload_n (kf := 0) (by decide +kernel) rfl rfl) ?_
  refine am_all.c (s_get (C := cn_M) (Tf := ft_M) (N := 21) rfl fi_M (by decide) tw_555 (by decide +kernel) rfl) ?_
  refine am_all.c (s_iload_n (kf := 3) (by decide +kernel) rfl rfl) ?_
  refine am_all.c (s_iald rfl (by decide +kernel) rfl) ?_
  refine am_all.c (s_imul (by decide +kernel) rfl) ?_
  refine am_all.c (s_iadd (by decide +kernel) rfl) ?_
  refine am_all.c (s_istore (by decide +kernel) rfl) ?_
  refine am_all.c (s_aload_n (kf := 0) (by decide +kernel) rfl rfl) ?_
  refine am_all.c (s_get (C := cn_M) (Tf := ft_M) (N := 21) rfl fi_M (by decide) tw_556 (by decide +kernel) rfl) ?_
  refine am_all.c (s_iload (by decide +kernel) rfl) ?_
  refine am_all.c (s_iload (by decide +kernel) rfl) ?_
  refine am_all.c (s_iast rfl (by decide +kernel) rfl) ?_
  refine am_all.c (s_aload_n (kf := 0) (by decide +kernel) rfl rfl) ?_
  refine am_all.c (s_get (C := cn_M) (Tf := ft_M) (N := 21) rfl fi_M (by decide) tw_556 (by decide +kernel) rfl) ?_
  refine am_all.c (s_iload (by decide +kernel) rfl) ?_
  refine am_all.c (s_iconst (by decide +kernel) (by decide) rfl) ?_
  refine am_all.c (s_iadd (by decide +kernel) rfl) ?_
  refine am_all.c (s_aload_n (kf := 0) (by decide +kernel) rfl rfl) ?_
  refine am_all.c (s_get (C := cn_M) (Tf := ft_M) (N := 21) rfl fi_M (by decide) tw_554 (by decide +kernel) rfl) ?_
  refine am_all.c (s_iload_n (kf := 2) (by decide +kernel) rfl rfl) ?_
  refine am_all.c (s_iconst (by decide +kernel) (by decide) rfl) ?_
  refine am_all.c (s_iadd (by decide +kernel) rfl) ?_
  refine am_all.c (s_iald rfl (by decide +kernel) rfl) ?_
  refine am_all.c (s_iast rfl (by decide +kernel) rfl) ?_
  refine am_all.c (s_aload_n (kf := 0) (by decide +kernel) rfl rfl) ?_
  refine am_all.c (s_get (C := cn_M) (Tf := ft_M) (N := 21) rfl fi_M (by decide) tw_556 (by decide +kernel) rfl) ?_
  refine am_all.c (s_iload (by decide +kernel) rfl) ?_
  refine am_all.c (s_iconst (by decide +kernel) (by decide) rfl) ?_
  refine am_all.c (s_iadd (by decide +kernel) rfl) ?_
  refine am_all.c (s_aload_n (kf := 0) (by decide +kernel) rfl rfl) ?_
  refine am_all.c (s_get (C := cn_M) (Tf := ft_M) (N := 21) rfl fi_M (by decide) tw_554 (by decide +kernel) rfl) ?_
  refine am_all.c (s_iload_n (kf := 2) (by decide +kernel) rfl rfl) ?_
  refine am_all.c (s_iconst (by decide +kernel) (by decide) rfl) ?_
  refine am_all.c (s_iadd (by decide +kernel) rfl) ?_
  refine am_all.c (s_iald rfl (by decide +kernel) rfl) ?_
  refine am_all.c (s_iast rfl (by decide +kernel) rfl) ?_
  refine am_all.c (s_aload_n (kf := 0) (by decide +kernel) rfl rfl) ?_
  refine am_all.c (s_get (C := cn_M) (Tf := ft_M) (N := 21) rfl fi_M (by decide) tw_555 (by decide +kernel) rfl) ?_
  refine am_all.c (s_iload_n (kf := 3) (by decide +kernel) rfl rfl) ?_
  refine am_all.c (s_dup2 (by decide +kernel) rfl) ?_
  refine am_all.c (s_iald rfl (by decide +kernel) rfl) ?_
  refine am_all.c (s_iconst (by decide +kernel) (by decide) rfl) ?_
  refine am_all.c (s_iadd (by decide +kernel) rfl) ?_
  refine am_all.c (s_iast rfl (by decide +kernel) rfl) ?_
  refine am_all.c (s_aload_n (kf := 0) (by decide +kernel) rfl rfl) ?_
  refine am_all.c (s_get (C := cn_M) (Tf := ft_M) (N := 21) rfl fi_M (by decide) tw_557 (by decide +kernel) rfl) ?_
  refine am_all.c (s_iload_n (kf := 3) (by decide +kernel) rfl rfl) ?_
  refine am_all.c (s_iload (by decide +kernel) rfl) ?_
  refine am_all.c (s_iconst (by decide +kernel) (by decide) rfl) ?_
  refine am_all.c (s_iadd (by decide +kernel) rfl) ?_
  refine am_all.c (s_iast rfl (by decide +kernel) rfl) ?_
  refine am_all.c (s_vret (by decide +kernel) rfl) ?_
  exact trivial
set_option maxRecDepth 20000 in
theorem ga_M_note {D : va_G} {dA : Nat → ClassId} {h b L : Nat} {xs : Nat → Int32} (hN : am_nN (am_En D dA h b L xs)) : am_all (am_En D dA h b L xs) mv_tb mv_P tM_note kM_note := by
  unfold kM_note
  refine am_all.c (s_iconst (by decide +kernel) (by decide) rfl) ?_
  refine am_all.c (s_aload_n (kf := 0) (by decide +kernel) rfl rfl) ?_
  refine am_all.c (s_get (C := cn_M) (Tf := ft_M) (N := 21) rfl fi_M (by decide) tw_552 (by decide +kernel) rfl) ?_
  refine am_all.c (s_imul (by decide +kernel) rfl) ?_
  refine am_all.c (s_istore (by decide +kernel) rfl) ?_
  refine am_all.c (s_aload_n (kf := 0) (by decide +kernel) rfl rfl) ?_
  refine am_all.c (s_get (C := cn_M) (Tf := ft_M) (N := 21) rfl fi_M (by decide) tw_554 (by decide +kernel) rfl) ?_
  refine am_all.c (s_iload (by decide +kernel) rfl) ?_
  refine am_all.c (s_iload_n (kf := 1) (by decide +kernel) rfl rfl) ?_
  refine am_all.c (s_iast rfl (by decide +kernel) rfl) ?_
  refine am_all.c (s_aload_n (kf := 0) (by decide +kernel) rfl rfl) ?_
  refine am_all.c (s_get (C := cn_M) (Tf := ft_M) (N := 21) rfl fi_M (by decide) tw_554 (by decide +kernel) rfl) ?_
  refine am_all.c (s_iload (by decide +kernel) rfl) ?_
  refine am_all.c (s_iconst (by decide +kernel) (by decide) rfl) ?_
  refine am_all.c (s_iadd (by decide +kernel) rfl) ?_
  refine am_all.c (s_iload_n (kf := 2) (by decide +kernel) rfl rfl) ?_
  refine am_all.c (s_iast rfl (by decide +kernel) rfl) ?_
  refine am_all.c (s_aload_n (kf := 0) (by decide +kernel) rfl rfl) ?_
  refine am_all.c (s_get (C := cn_M) (Tf := ft_M) (N := 21) rfl fi_M (by decide) tw_554 (by decide +kernel) rfl) ?_
  refine am_all.c (s_iload (by decide +kernel) rfl) ?_
  refine am_all.c (s_iconst (by decide +kernel) (by decide) rfl) ?_
  refine am_all.c (s_iadd (by decide +kernel) rfl) ?_
  refine am_all.c (s_iload_n (kf := 3) (by decide +kernel) rfl rfl) ?_
  refine am_all.c (s_iast rfl (by decide +kernel) rfl) ?_
  refine am_all.c (s_aload_n (kf := 0) (by decide +kernel) rfl rfl) ?_
  refine am_all.c (s_get (C := cn_M) (Tf := ft_M) (N := 21) rfl fi_M (by decide) tw_554 (by decide +kernel) rfl) ?_
  refine am_all.c (s_iload (by decide +kernel) rfl) ?_
  refine am_all.c (s_iconst (by decide +kernel) (by decide) rfl) ?_
  refine am_all.c (s_iadd (by decide +kernel) rfl) ?_
  refine am_all.c (s_iload (by decide +kernel) rfl) ?_
  refine am_all.c (s_iast rfl (by decide +kernel) rfl) ?_
  refine am_all.c (s_aload_n (kf := 0) (by decide +kernel) rfl rfl) ?_
  refine am_all.c (s_get (C := cn_M) (Tf := ft_M) (N := 21) rfl fi_M (by decide) tw_554 (by decide +kernel) rfl) ?_
  refine am_all.c (s_iload (by decide +kernel) rfl) ?_
  refine am_all.c (s_iconst (by decide +kernel) (by decide) rfl) ?_
  refine am_all.c (s_iadd (by decide +kernel) rfl) ?_
  refine am_all.c (s_iload (by decide +kernel) rfl) ?_
  refine am_all.c (s_iast rfl (by decide +kernel) rfl) ?_
  refine am_all.c (s_aload_n (kf := 0) (by decide +kernel) rfl rfl) ?_
  refine am_all.c (s_aload_n (kf := 0) (by decide +kernel) rfl rfl) ?_
  refine am_all.c (s_get (C := cn_M) (Tf := ft_M) (N := 21) rfl fi_M (by decide) tw_552 (by decide +kernel) rfl) ?_
  refine am_all.c (s_callV (q := (cn_M, ft_M, 21)) (by decide) (ce_M_apply hN) rfl rfl tw_631 tw_633 tw_23 (by decide +kernel) rfl) ?_
  refine am_all.c (s_aload_n (kf := 0) (by decide +kernel) rfl rfl) ?_
  refine am_all.c (s_dup (by decide +kernel) rfl) ?_
  refine am_all.c (s_get (C := cn_M) (Tf := ft_M) (N := 21) rfl fi_M (by decide) tw_552 (by decide +kernel) rfl) ?_
  refine am_all.c (s_iconst (by decide +kernel) (by decide) rfl) ?_
  refine am_all.c (s_iadd (by decide +kernel) rfl) ?_
  refine am_all.c (s_put (C := cn_M) (Tf := ft_M) (N := 21) (ty := .int) rfl fi_M fy_M fo_M fn_M (by decide) tw_552 (Or.inl rfl) (by decide +kernel) (Or.inl ⟨rfl, rfl⟩) (by decide +kernel) rfl) ?_
  refine am_all.c (s_aload_n (kf := 0) (by decide +kernel) rfl rfl) ?_
  refine am_all.c (s_get (C := cn_M) (Tf := ft_M) (N := 21) rfl fi_M (by decide) tw_552 (by decide +kernel) rfl) ?_
  refine am_all.c (s_aload_n (kf := 0) (by decide +kernel) rfl rfl) ?_
  refine am_all.c (s_get (C := cn_M) (Tf := ft_M) (N := 21) rfl fi_M (by decide) tw_553 (by decide +kernel) rfl) ?_
  refine am_all.c (s_isub (by decide +kernel) rfl) ?_
  refine am_all.c (s_bipush (by decide +kernel) (by decide +kernel) (by decide) rfl) ?_
  refine am_all.c (s_icmp_ne (off := 11) (by decide +kernel) (by decide) rfl) ?_
  refine am_all.c (s_aload_n (kf := 0) (by decide +kernel) rfl rfl) ?_
  refine am_all.c (s_aload_n (kf := 0) (by decide +kernel) rfl rfl) ?_
  refine am_all.c (s_get (C := cn_M) (Tf := ft_M) (N := 21) rfl fi_M (by decide) tw_552 (by decide +kernel) rfl) ?_
  refine am_all.c (s_put (C := cn_M) (Tf := ft_M) (N := 21) (ty := .int) rfl fi_M fy_M fo_M fn_M (by decide) tw_553 (Or.inl rfl) (by decide +kernel) (Or.inl ⟨rfl, rfl⟩) (by decide +kernel) rfl) ?_
  refine am_all.c (s_vret (by decide +kernel) rfl) ?_
  exact trivial
set_option maxRecDepth 20000 in
theorem ga_M_add {D : va_G} {dA : Nat → ClassId} {h b L : Nat} {xs : Nat → Int32} (hN : am_nN (am_En D dA h b L xs)) : am_all (am_En D dA h b L xs) mv_tb mv_P tM_add kM_add := by
  unfold kM_add
  refine am_all.c (s_aload_n (kf := 0) (by decide +kernel) rfl rfl) ?_
  refine am_all.c (s_get (C := cn_M) (Tf := ft_M) (N := 21) rfl fi_M (by decide) tw_555 (by decide +kernel) rfl) ?_
  refine am_all.c (s_iload_n (kf := 1) (by decide +kernel) rfl rfl) ?_
  refine am_all.c (s_iald rfl (by decide +kernel) rfl) ?_
  refine am_all.c (s_bipush (by decide +kernel) (by decide +kernel) (by decide) rfl) ?_
  refine am_all.c (s_icmp_ne (off := 6) (by decide +kernel) (by decide) rfl) ?_
  refine am_all.c (s_bipush (by decide +kernel) (by decide +kernel) (by decide) rfl) ?_
  refine am_all.c (s_iret (by decide +kernel) rfl) ?_
  refine am_all.c (s_aload_n (kf := 0) (by decide +kernel) rfl rfl) ?_
  refine am_all.c (s_iconst (by decide +kernel) (by decide) rfl) ?_
  refine am_all.c (s_iload_n (kf := 1) (by decide +kernel) rfl rfl) ?_
  refine am_all.c (s_aload_n (kf := 0) (by decide +kernel) rfl rfl) ?_
  refine am_all.c (s_get (C := cn_M) (Tf := ft_M) (N := 21) rfl fi_M (by decide) tw_557 (by decide +kernel) rfl) ?_
  refine am_all.c (s_iload_n (kf := 1) (by decide +kernel) rfl rfl) ?_
  refine am_all.c (s_iald rfl (by decide +kernel) rfl) ?_
  refine am_all.c (s_iload_n (kf := 2) (by decide +kernel) rfl rfl) ?_
  refine am_all.c (s_iload_n (kf := 3) (by decide +kernel) rfl rfl) ?_
  refine am_all.c (s_callV (q := (cn_M, ft_M, 21)) (by decide) (ce_M_note hN) rfl rfl tw_627 tw_629 tw_22 (by decide +kernel) rfl) ?_
  refine am_all.c (s_aload_n (kf := 0) (by decide +kernel) rfl rfl) ?_
  refine am_all.c (s_get (C := cn_M) (Tf := ft_M) (N := 21) rfl fi_M (by decide) tw_557 (by decide +kernel) rfl) ?_
  refine am_all.c (s_iload_n (kf := 1) (by decide +kernel) rfl rfl) ?_
  refine am_all.c (s_iald rfl (by decide +kernel) rfl) ?_
  refine am_all.c (s_iconst (by decide +kernel) (by decide) rfl) ?_
  refine am_all.c (s_isub (by decide +kernel) rfl) ?_
  refine am_all.c (s_iret (by decide +kernel) rfl) ?_
  exact trivial
set_option maxRecDepth 20000 in
theorem ga_M_purge {D : va_G} {dA : Nat → ClassId} {h b L : Nat} {xs : Nat → Int32} (hN : am_nN (am_En D dA h b L xs)) : am_all (am_En D dA h b L xs) mv_tb mv_P tM_purge kM_purge := by
  unfold kM_purge
  refine am_all.c (s_iconst (by decide +kernel) (by decide) rfl) ?_
  refine am_all.c (s_istore_n (kf := 2) (by decide +kernel) rfl rfl) ?_
  refine am_all.c (s_iconst (by decide +kernel) (by decide) rfl) ?_
  refine am_all.c (s_istore_n (kf := 3) (by decide +kernel) rfl rfl) ?_
  refine am_all.c (s_iload_n (kf := 3) (by decide +kernel) rfl rfl) ?_
  refine am_all.c (s_aload_n (kf := 0) (by decide +kernel) rfl rfl) ?_
  refine am_all.c (s_get (C := cn_M) (Tf := ft_M) (N := 21) rfl fi_M (by decide) tw_555 (by decide +kernel) rfl) ?_
  refine am_all.c (s_iload_n (kf := 1) (by decide +kernel) rfl rfl) ?_
  refine am_all.c (s_iald rfl (by decide +kernel) rfl) ?_
  refine am_all.c (s_icmp_ge (off := 57) (by decide +kernel) (by decide) rfl) ?_
  refine am_all.c (s_aload_n (kf := 0) (by decide +kernel) rfl rfl) ?_
  refine am_all.c (s_get (C := cn_M) (Tf := ft_M) (N := 21) rfl fi_M (by decide) tw_556 (by decide +kernel) rfl) ?_
  refine am_all.c (s_bipush (by decide +kernel) (by decide +kernel) (by decide) rfl) ?_
  refine am_all.c (s_iload_n (kf := 1) (by decide +kernel) rfl rfl) ?_
  refine am_all.c (s_imul (by decide +kernel) rfl) ?_
  refine am_all.c (s_iconst (by decide +kernel) (by decide) rfl) ?_
  refine am_all.c (s_iload_n (kf := 3) (by decide +kernel) rfl rfl) ?_
  refine am_all.c (s_imul (by decide +kernel) rfl) ?_
  refine am_all.c (s_iadd (by decide +kernel) rfl) ?_
  refine am_all.c (s_iconst (by decide +kernel) (by decide) rfl) ?_
  refine am_all.c (s_iadd (by decide +kernel) rfl) ?_
  refine am_all.c (s_iald rfl (by decide +kernel) rfl) ?_
  refine am_all.c (s_bipush (by decide +kernel) (by decide +kernel) (by decide) rfl) ?_
  refine am_all.c (s_iand (by decide +kernel) rfl) ?_
  refine am_all.c (s_if_ne (off := 9) (by decide +kernel) (by decide) rfl) ?_
  refine am_all.c (s_iinc (by decide +kernel) rfl) ?_
  refine am_all.c (s_goto (off := -34) (by decide +kernel) (by decide)) ?_
  refine am_all.c (s_aload_n (kf := 0) (by decide +kernel) rfl rfl) ?_
  refine am_all.c (s_iconst (by decide +kernel) (by decide) rfl) ?_
  refine am_all.c (s_iload_n (kf := 1) (by decide +kernel) rfl rfl) ?_
  refine am_all.c (s_aload_n (kf := 0) (by decide +kernel) rfl rfl) ?_
  refine am_all.c (s_get (C := cn_M) (Tf := ft_M) (N := 21) rfl fi_M (by decide) tw_556 (by decide +kernel) rfl) ?_
  refine am_all.c (s_bipush (by decide +kernel) (by decide +kernel) (by decide) rfl) ?_
  refine am_all.c (s_iload_n (kf := 1) (by decide +kernel) rfl rfl) ?_
  refine am_all.c (s_imul (by decide +kernel) rfl) ?_
  refine am_all.c (s_iconst (by decide +kernel) (by decide) rfl) ?_
  refine am_all.c (s_iload_n (kf := 3) (by decide +kernel) rfl rfl) ?_
  refine am_all.c (s_imul (by decide +kernel) rfl) ?_
  refine am_all.c (s_iadd (by decide +kernel) rfl) ?_
  refine am_all.c (s_iald rfl (by decide +kernel) rfl) ?_
  refine am_all.c (s_iconst (by decide +kernel) (by decide) rfl) ?_
  refine am_all.c (s_iconst (by decide +kernel) (by decide) rfl) ?_
  refine am_all.c (s_callV (q := (cn_M, ft_M, 21)) (by decide) (ce_M_note hN) rfl rfl tw_627 tw_629 tw_22 (by decide +kernel) rfl) ?_
  refine am_all.c (s_iinc (by decide +kernel) rfl) ?_
  refine am_all.c (s_goto (off := -61) (by decide +kernel) (by decide)) ?_
  refine am_all.c (s_iload_n (kf := 2) (by decide +kernel) rfl rfl) ?_
  refine am_all.c (s_iret (by decide +kernel) rfl) ?_
  exact trivial
set_option maxRecDepth 20000 in
theorem ga_M_append {D : va_G} {dA : Nat → ClassId} {h b L : Nat} {xs : Nat → Int32} (hN : am_nN (am_En D dA h b L xs)) : am_all (am_En D dA h b L xs) mv_tb mv_P tM_append kM_append := by
  unfold kM_append
  refine am_all.c (s_iload_n (kf := 1) (by decide +kernel) rfl rfl) ?_
  refine am_all.c (s_iconst (by decide +kernel) (by decide) rfl) ?_
  refine am_all.c (s_iconst (by decide +kernel) (by decide) rfl) ?_
  refine am_all.c (s_callS (by decide) (ce_M_in hN) tw_620 tw_621 (by decide +kernel) rfl) ?_
  refine am_all.c (s_if_eq (off := 24) (by decide +kernel) (by decide) rfl) ?_
  refine am_all.c (s_iload_n (kf := 2) (by decide +kernel) rfl rfl) ?_
  refine am_all.c (s_iconst (by decide +kernel) (by decide) rfl) ?_
  refine am_all.c (s_bipush (by decide +kernel) (by decide +kernel) (by decide) rfl) ?_
  refine am_all.c (s_callS (by decide) (ce_M_in hN) tw_620 tw_621 (by decide +kernel) rfl) ?_
  refine am_all.c (s_if_eq (off := 14) (by decide +kernel) (by decide) rfl) ?_
  refine am_all.c (s_iload_n (kf := 3) (by decide +kernel) rfl rfl) ?_
  refine am_all.c (s_iconst (by decide +kernel) (by decide) rfl) ?_
  refine am_all.c (s_sipush (by decide +kernel) (by decide +kernel) (by decide) rfl) ?_
  refine am_all.c (s_callS (by decide) (ce_M_in hN) tw_620 tw_621 (by decide +kernel) rfl) ?_
  refine am_all.c (s_if_ne (off := 5) (by decide +kernel) (by decide) rfl) ?_
  refine am_all.c (s_iconst (by decide +kernel) (by decide) rfl) ?_
  refine am_all.c (s_iret (by decide +kernel) rfl) ?_
  refine am_all.c (s_aload_n (kf := 0) (by decide +kernel) rfl rfl) ?_
  refine am_all.c (s_iload_n (kf := 1) (by decide +kernel) rfl rfl) ?_
  refine am_all.c (s_iload_n (kf := 2) (by decide +kernel) rfl rfl) ?_
  refine am_all.c (s_iload_n (kf := 3) (by decide +kernel) rfl rfl) ?_
  refine am_all.c (s_callV (q := (cn_M, ft_M, 21)) (by decide) (ce_M_add hN) rfl rfl tw_623 tw_625 tw_21 (by decide +kernel) rfl) ?_
  refine am_all.c (s_iret (by decide +kernel) rfl) ?_
  exact trivial
set_option maxRecDepth 20000 in
theorem ga_M_none {D : va_G} {dA : Nat → ClassId} {h b L : Nat} {xs : Nat → Int32} (hN : am_nN (am_En D dA h b L xs)) : am_all (am_En D dA h b L xs) mv_tb mv_P tM_none kM_none := by
  unfold kM_none
  refine am_all.c (s_iload_n (kf := 1) (by decide +kernel) rfl rfl) ?_
  refine am_all.c (s_iconst (by decide +kernel) (by decide) rfl) ?_
  refine am_all.c (s_iconst (by decide +kernel) (by decide) rfl) ?_
  refine am_all.c (s_callS (by decide) (ce_M_in hN) tw_620 tw_621 (by decide +kernel) rfl) ?_
  refine am_all.c (s_if_eq (off := 12) (by decide +kernel) (by decide) rfl) ?_
  refine am_all.c (s_aload_n (kf := 0) (by decide +kernel) rfl rfl) ?_
  refine am_all.c (s_get (C := cn_M) (Tf := ft_M) (N := 21) rfl fi_M (by decide) tw_559 (by decide +kernel) rfl) ?_
  refine am_all.c (s_iload_n (kf := 1) (by decide +kernel) rfl rfl) ?_
  refine am_all.c (s_iald rfl (by decide +kernel) rfl) ?_
  refine am_all.c (s_if_ge (off := 7) (by decide +kernel) (by decide) rfl) ?_
  refine am_all.c (s_iconst (by decide +kernel) (by decide) rfl) ?_
  refine am_all.c (s_goto (off := 4) (by decide +kernel) (by decide)) ?_
  refine am_all.c (s_iconst (by decide +kernel) (by decide) rfl) ?_
  refine am_all.c (s_zret (by decide +kernel) rfl) ?_
  exact trivial
set_option maxRecDepth 20000 in
theorem ga_M_bad {D : va_G} {dA : Nat → ClassId} {h b L : Nat} {xs : Nat → Int32} (hN : am_nN (am_En D dA h b L xs)) : am_all (am_En D dA h b L xs) mv_tb mv_P tM_bad kM_bad := by
  unfold kM_bad
  refine am_all.c (s_aload_n (kf := 0) (by decide +kernel) rfl rfl) ?_
  refine am_all.c (s_iload_n (kf := 1) (by decide +kernel) rfl rfl) ?_
  refine am_all.c (s_callV (q := (cn_M, ft_M, 21)) (by decide) (ce_M_none hN) rfl rfl tw_651 tw_653 tw_26 (by decide +kernel) rfl) ?_
  refine am_all.c (s_if_ne (off := 17) (by decide +kernel) (by decide) rfl) ?_
  refine am_all.c (s_iload_n (kf := 2) (by decide +kernel) rfl rfl) ?_
  refine am_all.c (s_iconst (by decide +kernel) (by decide) rfl) ?_
  refine am_all.c (s_aload_n (kf := 0) (by decide +kernel) rfl rfl) ?_
  refine am_all.c (s_get (C := cn_M) (Tf := ft_M) (N := 21) rfl fi_M (by decide) tw_561 (by decide +kernel) rfl) ?_
  refine am_all.c (s_iload_n (kf := 1) (by decide +kernel) rfl rfl) ?_
  refine am_all.c (s_iald rfl (by decide +kernel) rfl) ?_
  refine am_all.c (s_callS (by decide) (ce_M_in hN) tw_620 tw_621 (by decide +kernel) rfl) ?_
  refine am_all.c (s_if_ne (off := 7) (by decide +kernel) (by decide) rfl) ?_
  refine am_all.c (s_iconst (by decide +kernel) (by decide) rfl) ?_
  refine am_all.c (s_goto (off := 4) (by decide +kernel) (by decide)) ?_
  refine am_all.c (s_iconst (by decide +kernel) (by decide) rfl) ?_
  refine am_all.c (s_zret (by decide +kernel) rfl) ?_
  exact trivial
set_option maxRecDepth 20000 in
theorem ga_M_uidOf {D : va_G} {dA : Nat → ClassId} {h b L : Nat} {xs : Nat → Int32} (hN : am_nN (am_En D dA h b L xs)) : am_all (am_En D dA h b L xs) mv_tb mv_P tM_uidOf kM_uidOf := by
  unfold kM_uidOf
  refine am_all.c (s_aload_n (kf := 0) (by decide +kernel) rfl rfl) ?_
  refine am_all.c (s_get (C := cn_M) (Tf := ft_M) (N := 21) rfl fi_M (by decide) tw_562 (by decide +kernel) rfl) ?_
  refine am_all.c (s_bipush (by decide +kernel) (by decide +kernel) (by decide) rfl) ?_
  refine am_all.c (s_iload_n (kf := 1) (by decide +kernel) rfl rfl) ?_
  refine am_all.c (s_imul (by decide +kernel) rfl) ?_
  refine am_all.c (s_iload_n (kf := 2) (by decide +kernel) rfl rfl) ?_
  refine am_all.c (s_iadd (by decide +kernel) rfl) ?_
  refine am_all.c (s_iconst (by decide +kernel) (by decide) rfl) ?_
  refine am_all.c (s_isub (by decide +kernel) rfl) ?_
  refine am_all.c (s_iald rfl (by decide +kernel) rfl) ?_
  refine am_all.c (s_iret (by decide +kernel) rfl) ?_
  exact trivial
set_option maxRecDepth 20000 in
theorem ga_M_gone {D : va_G} {dA : Nat → ClassId} {h b L : Nat} {xs : Nat → Int32} (hN : am_nN (am_En D dA h b L xs)) : am_all (am_En D dA h b L xs) mv_tb mv_P tM_gone kM_gone := by
  unfold kM_gone
  refine am_all.c (s_aload_n (kf := 0) (by decide +kernel) rfl rfl) ?_
  refine am_all.c (s_aload_n (kf := 0) (by decide +kernel) rfl rfl) ?_
  refine am_all.c (s_get (C := cn_M) (Tf := ft_M) (N := 21) rfl fi_M (by decide) tw_559 (by decide +kernel) rfl) ?_
  refine am_all.c (s_iload_n (kf := 1) (by decide +kernel) rfl rfl) ?_
  refine am_all.c (s_iald rfl (by decide +kernel) rfl) ?_
  refine am_all.c (s_aload_n (kf := 0) (by decide +kernel) rfl rfl) ?_
  refine am_all.c (s_iload_n (kf := 1) (by decide +kernel) rfl rfl) ?_
  refine am_all.c (s_iload_n (kf := 2) (by decide +kernel) rfl rfl) ?_
  refine am_all.c (s_callV (q := (cn_M, ft_M, 21)) (by decide) (ce_M_uidOf hN) rfl rfl tw_671 tw_673 tw_30 (by decide +kernel) rfl) ?_
  refine am_all.c (s_callV (q := (cn_M, ft_M, 21)) (by decide) (ce_M_place hN) rfl rfl tw_635 tw_637 tw_24 (by decide +kernel) rfl) ?_
  refine am_all.c (s_if_ge (off := 7) (by decide +kernel) (by decide) rfl) ?_
  refine am_all.c (s_iconst (by decide +kernel) (by decide) rfl) ?_
  refine am_all.c (s_goto (off := 4) (by decide +kernel) (by decide)) ?_
  refine am_all.c (s_iconst (by decide +kernel) (by decide) rfl) ?_
  refine am_all.c (s_zret (by decide +kernel) rfl) ?_
  exact trivial
set_option maxRecDepth 20000 in
theorem ga_M_tell {D : va_G} {dA : Nat → ClassId} {h b L : Nat} {xs : Nat → Int32} (hN : am_nN (am_En D dA h b L xs)) : am_all (am_En D dA h b L xs) mv_tb mv_P tM_tell kM_tell := by
  unfold kM_tell
  refine am_all.c (s_aload_n (kf := 0) (by decide +kernel) rfl rfl) ?_
  refine am_all.c (s_get (C := cn_M) (Tf := ft_M) (N := 21) rfl fi_M (by decide) tw_566 (by decide +kernel) rfl) ?_
  refine am_all.c (s_bipush (by decide +kernel) (by decide +kernel) (by decide) rfl) ?_
  refine am_all.c (s_iload_n (kf := 1) (by decide +kernel) rfl rfl) ?_
  refine am_all.c (s_imul (by decide +kernel) rfl) ?_
  refine am_all.c (s_iconst (by decide +kernel) (by decide) rfl) ?_
  refine am_all.c (s_aload_n (kf := 0) (by decide +kernel) rfl rfl) ?_
  refine am_all.c (s_get (C := cn_M) (Tf := ft_M) (N := 21) rfl fi_M (by decide) tw_565 (by decide +kernel) rfl) ?_
  refine am_all.c (s_iload_n (kf := 1) (by decide +kernel) rfl rfl) ?_
  refine am_all.c (s_iald rfl (by decide +kernel) rfl) ?_
  refine am_all.c (s_imul (by decide +kernel) rfl) ?_
  refine am_all.c (s_iadd (by decide +kernel) rfl) ?_
  refine am_all.c (s_iload_n (kf := 2) (by decide +kernel) rfl rfl) ?_
  refine am_all.c (s_iast rfl (by decide +kernel) rfl) ?_
  refine am_all.c (s_aload_n (kf := 0) (by decide +kernel) rfl rfl) ?_
  refine am_all.c (s_get (C := cn_M) (Tf := ft_M) (N := 21) rfl fi_M (by decide) tw_566 (by decide +kernel) rfl) ?_
  refine am_all.c (s_bipush (by decide +kernel) (by decide +kernel) (by decide) rfl) ?_
  refine am_all.c (s_iload_n (kf := 1) (by decide +kernel) rfl rfl) ?_
  refine am_all.c (s_imul (by decide +kernel) rfl) ?_
  refine am_all.c (s_iconst (by decide +kernel) (by decide) rfl) ?_
  refine am_all.c (s_aload_n (kf := 0) (by decide +kernel) rfl rfl) ?_
  refine am_all.c (s_get (C := cn_M) (Tf := ft_M) (N := 21) rfl fi_M (by decide) tw_565 (by decide +kernel) rfl) ?_
  refine am_all.c (s_iload_n (kf := 1) (by decide +kernel) rfl rfl) ?_
  refine am_all.c (s_iald rfl (by decide +kernel) rfl) ?_
  refine am_all.c (s_imul (by decide +kernel) rfl) ?_
  refine am_all.c (s_iadd (by decide +kernel) rfl) ?_
  refine am_all.c (s_iconst (by decide +kernel) (by decide) rfl) ?_
  refine am_all.c (s_iadd (by decide +kernel) rfl) ?_
  refine am_all.c (s_iload_n (kf := 3) (by decide +kernel) rfl rfl) ?_
  refine am_all.c (s_iast rfl (by decide +kernel) rfl) ?_
  refine am_all.c (s_aload_n (kf := 0) (by decide +kernel) rfl rfl) ?_
  refine am_all.c (s_get (C := cn_M) (Tf := ft_M) (N := 21) rfl fi_M (by decide) tw_565 (by decide +kernel) rfl) ?_
  refine am_all.c (s_iload_n (kf := 1) (by decide +kernel) rfl rfl) ?_
  refine am_all.c (s_dup2 (by decide +kernel) rfl) ?_
  refine am_all.c (s_iald rfl (by decide +kernel) rfl) ?_
  refine am_all.c (s_iconst (by decide +kernel) (by decide) rfl) ?_
  refine am_all.c (s_iadd (by decide +kernel) rfl) ?_
  refine am_all.c (s_iast rfl (by decide +kernel) rfl) ?_
  refine am_all.c (s_vret (by decide +kernel) rfl) ?_
  exact trivial
set_option maxRecDepth 20000 in
theorem ga_M_leave {D : va_G} {dA : Nat → ClassId} {h b L : Nat} {xs : Nat → Int32} (hN : am_nN (am_En D dA h b L xs)) : am_all (am_En D dA h b L xs) mv_tb mv_P tM_leave kM_leave := by
  unfold kM_leave
  refine am_all.c (s_aload_n (kf := 0) (by decide +kernel) rfl rfl) ?_
  refine am_all.c (s_get (C := cn_M) (Tf := ft_M) (N := 21) rfl fi_M (by decide) tw_561 (by decide +kernel) rfl) ?_
  refine am_all.c (s_iload_n (kf := 1) (by decide +kernel) rfl rfl) ?_
  refine am_all.c (s_dup2 (by decide +kernel) rfl) ?_
  refine am_all.c (s_iald rfl (by decide +kernel) rfl) ?_
  refine am_all.c (s_iconst (by decide +kernel) (by decide) rfl) ?_
  refine am_all.c (s_isub (by decide +kernel) rfl) ?_
  refine am_all.c (s_iast rfl (by decide +kernel) rfl) ?_
  refine am_all.c (s_bipush (by decide +kernel) (by decide +kernel) (by decide) rfl) ?_
  refine am_all.c (s_iload_n (kf := 1) (by decide +kernel) rfl rfl) ?_
  refine am_all.c (s_imul (by decide +kernel) rfl) ?_
  refine am_all.c (s_iload_n (kf := 2) (by decide +kernel) rfl rfl) ?_
  refine am_all.c (s_iadd (by decide +kernel) rfl) ?_
  refine am_all.c (s_iconst (by decide +kernel) (by decide) rfl) ?_
  refine am_all.c (s_isub (by decide +kernel) rfl) ?_
  refine am_all.c (s_istore_n (kf := 3) (by decide +kernel) rfl rfl) ?_
  refine am_all.c (s_iload_n (kf := 3) (by decide +kernel) rfl rfl) ?_
  refine am_all.c (s_bipush (by decide +kernel) (by decide +kernel) (by decide) rfl) ?_
  refine am_all.c (s_iload_n (kf := 1) (by decide +kernel) rfl rfl) ?_
  refine am_all.c (s_imul (by decide +kernel) rfl) ?_
  refine am_all.c (s_aload_n (kf := 0) (by decide +kernel) rfl rfl) ?_
  refine am_all.c (s_get (C := cn_M) (Tf := ft_M) (N := 21) rfl fi_M (by decide) tw_561 (by decide +kernel) rfl) ?_
  refine am_all.c (s_iload_n (kf := 1) (by decide +kernel) rfl rfl) ?_
  refine am_all.c (s_iald rfl (by decide +kernel) rfl) ?_
  refine am_all.c (s_iadd (by decide +kernel) rfl) ?_
  refine am_all.c (s_icmp_ge (off := 37) (by decide +kernel) (by decide) rfl) ?_
  refine am_all.c (s_aload_n (kf := 0) (by decide +kernel) rfl rfl) ?_
  refine am_all.c (s_get (C := cn_M) (Tf := ft_M) (N := 21) rfl fi_M (by decide) tw_562 (by decide +kernel) rfl) ?_
  refine am_all.c (s_iload_n (kf := 3) (by decide +kernel) rfl rfl) ?_
  refine am_all.c (s_aload_n (kf := 0) (by decide +kernel) rfl rfl) ?_
  refine am_all.c (s_get (C := cn_M) (Tf := ft_M) (N := 21) rfl fi_M (by decide) tw_562 (by decide +kernel) rfl) ?_
  refine am_all.c (s_iload_n (kf := 3) (by decide +kernel) rfl rfl) ?_
  refine am_all.c (s_iconst (by decide +kernel) (by decide) rfl) ?_
  refine am_all.c (s_iadd (by decide +kernel) rfl) ?_
  refine am_all.c (s_iald rfl (by decide +kernel) rfl) ?_
  refine am_all.c (s_iast rfl (by decide +kernel) rfl) ?_
  refine am_all.c (s_aload_n (kf := 0) (by decide +kernel) rfl rfl) ?_
  refine am_all.c (s_get (C := cn_M) (Tf := ft_M) (N := 21) rfl fi_M (by decide) tw_563 (by decide +kernel) rfl) ?_
  refine am_all.c (s_iload_n (kf := 3) (by decide +kernel) rfl rfl) ?_
  refine am_all.c (s_aload_n (kf := 0) (by decide +kernel) rfl rfl) ?_
  refine am_all.c (s_get (C := cn_M) (Tf := ft_M) (N := 21) rfl fi_M (by decide) tw_563 (by decide +kernel) rfl) ?_
  refine am_all.c (s_iload_n (kf := 3) (by decide +kernel) rfl rfl) ?_
  refine am_all.c (s_iconst (by decide +kernel) (by decide) rfl) ?_
  refine am_all.c (s_iadd (by decide +kernel) rfl) ?_
  refine am_all.c (s_iald rfl (by decide +kernel) rfl) ?_
  refine am_all.c (s_iast rfl (by decide +kernel) rfl) ?_
  refine am_all.c (s_iinc (by decide +kernel) rfl) ?_
  refine am_all.c (s_goto (off := -46) (by decide +kernel) (by decide)) ?_
  refine am_all.c (s_vret (by decide +kernel) rfl) ?_
  exact trivial
set_option maxRecDepth 20000 in
theorem ga_M_gather {D : va_G} {dA : Nat → ClassId} {h b L : Nat} {xs : Nat → Int32} (hN : am_nN (am_En D dA h b L xs)) : am_all (am_En D dA h b L xs) mv_tb mv_P tM_gather kM_gather := by
  unfold kM_gather
  refine am_all.c (s_aload_n (kf := 0) (by decide +kernel) rfl rfl) ?_
  refine am_all.c (s_get (C := cn_M) (Tf := ft_M) (N := 21) rfl fi_M (by decide) tw_559 (by decide +kernel) rfl) ?_
  refine am_all.c (s_iload_n (kf := 1) (by decide +kernel) rfl rfl) ?_
  refine am_all.c (s_iald rfl (by decide +kernel) rfl) ?_
  refine am_all.c (s_istore_n (kf := 2) (by decide +kernel) rfl rfl) ?_
  refine am_all.c (s_iconst (by decide +kernel) (by decide) rfl) ?_
  refine am_all.c (s_istore_n (kf := 3) (by decide +kernel) rfl rfl) ?_
  refine am_all.c (s_iconst (by decide +kernel) (by decide) rfl) ?_
  refine am_all.c (s_istore (by decide +kernel) rfl) ?_
  refine am_all.c (s_iload (by decide +kernel) rfl) ?_
  refine am_all.c (s_aload_n (kf := 0) (by decide +kernel) rfl rfl) ?_
  refine am_all.c (s_get (C := cn_M) (Tf := ft_M) (N := 21) rfl fi_M (by decide) tw_555 (by decide +kernel) rfl) ?_
  refine am_all.c (s_iload_n (kf := 2) (by decide +kernel) rfl rfl) ?_
  refine am_all.c (s_iald rfl (by decide +kernel) rfl) ?_
  refine am_all.c (s_icmp_ge (off := 121) (by decide +kernel) (by decide) rfl) ?_
  refine am_all.c (s_aload_n (kf := 0) (by decide +kernel) rfl rfl) ?_
  refine am_all.c (s_get (C := cn_M) (Tf := ft_M) (N := 21) rfl fi_M (by decide) tw_556 (by decide +kernel) rfl) ?_
  refine am_all.c (s_bipush (by decide +kernel) (by decide +kernel) (by decide) rfl) ?_
  refine am_all.c (s_iload_n (kf := 2) (by decide +kernel) rfl rfl) ?_
  refine am_all.c (s_imul (by decide +kernel) rfl) ?_
  refine am_all.c (s_iconst (by decide +kernel) (by decide) rfl) ?_
  refine am_all.c (s_iload (by decide +kernel) rfl) ?_
  refine am_all.c (s_imul (by decide +kernel) rfl) ?_
  refine am_all.c (s_iadd (by decide +kernel) rfl) ?_
  refine am_all.c (s_iald rfl (by decide +kernel) rfl) ?_
  refine am_all.c (s_istore (by decide +kernel) rfl) ?_
  refine am_all.c (s_iload (by decide +kernel) rfl) ?_
  refine am_all.c (s_aload_n (kf := 0) (by decide +kernel) rfl rfl) ?_
  refine am_all.c (s_get (C := cn_M) (Tf := ft_M) (N := 21) rfl fi_M (by decide) tw_564 (by decide +kernel) rfl) ?_
  refine am_all.c (s_iload_n (kf := 1) (by decide +kernel) rfl rfl) ?_
  refine am_all.c (s_iald rfl (by decide +kernel) rfl) ?_
  refine am_all.c (s_icmp_le (off := 88) (by decide +kernel) (by decide) rfl) ?_
  refine am_all.c (s_aload_n (kf := 0) (by decide +kernel) rfl rfl) ?_
  refine am_all.c (s_get (C := cn_M) (Tf := ft_M) (N := 21) rfl fi_M (by decide) tw_561 (by decide +kernel) rfl) ?_
  refine am_all.c (s_iload_n (kf := 1) (by decide +kernel) rfl rfl) ?_
  refine am_all.c (s_iald rfl (by decide +kernel) rfl) ?_
  refine am_all.c (s_bipush (by decide +kernel) (by decide +kernel) (by decide) rfl) ?_
  refine am_all.c (s_icmp_ne (off := 6) (by decide +kernel) (by decide) rfl) ?_
  refine am_all.c (s_goto (off := 74) (by decide +kernel) (by decide)) ?_
  refine am_all.c (s_aload_n (kf := 0) (by decide +kernel) rfl rfl) ?_
  refine am_all.c (s_get (C := cn_M) (Tf := ft_M) (N := 21) rfl fi_M (by decide) tw_562 (by decide +kernel) rfl) ?_
  refine am_all.c (s_bipush (by decide +kernel) (by decide +kernel) (by decide) rfl) ?_
  refine am_all.c (s_iload_n (kf := 1) (by decide +kernel) rfl rfl) ?_
  refine am_all.c (s_imul (by decide +kernel) rfl) ?_
  refine am_all.c (s_aload_n (kf := 0) (by decide +kernel) rfl rfl) ?_
  refine am_all.c (s_get (C := cn_M) (Tf := ft_M) (N := 21) rfl fi_M (by decide) tw_561 (by decide +kernel) rfl) ?_
  refine am_all.c (s_iload_n (kf := 1) (by decide +kernel) rfl rfl) ?_
  refine am_all.c (s_iald rfl (by decide +kernel) rfl) ?_
  refine am_all.c (s_iadd (by decide +kernel) rfl) ?_
  refine am_all.c (s_iload (by decide +kernel) rfl) ?_
  refine am_all.c (s_iast rfl (by decide +kernel) rfl) ?_
  refine am_all.c (s_aload_n (kf := 0) (by decide +kernel) rfl rfl) ?_
  refine am_all.c (s_get (C := cn_M) (Tf := ft_M) (N := 21) rfl fi_M (by decide) tw_563 (by decide +kernel) rfl) ?_
  refine am_all.c (s_bipush (by decide +kernel) (by decide +kernel) (by decide) rfl) ?_
  refine am_all.c (s_iload_n (kf := 1) (by decide +kernel) rfl rfl) ?_
  refine am_all.c (s_imul (by decide +kernel) rfl) ?_
  refine am_all.c (s_aload_n (kf := 0) (by decide +kernel) rfl rfl) ?_
  refine am_all.c (s_get (C := cn_M) (Tf := ft_M) (N := 21) rfl fi_M (by decide) tw_561 (by decide +kernel) rfl) ?_
  refine am_all.c (s_iload_n (kf := 1) (by decide +kernel) rfl rfl) ?_
  refine am_all.c (s_iald rfl (by decide +kernel) rfl) ?_
  refine am_all.c (s_iadd (by decide +kernel) rfl) ?_
  refine am_all.c (s_aload_n (kf := 0) (by decide +kernel) rfl rfl) ?_
  refine am_all.c (s_get (C := cn_M) (Tf := ft_M) (N := 21) rfl fi_M (by decide) tw_556 (by decide +kernel) rfl) ?_
  refine am_all.c (s_bipush (by decide +kernel) (by decide +kernel) (by decide) rfl) ?_
  refine am_all.c (s_iload_n (kf := 2) (by decide +kernel) rfl rfl) ?_
  refine am_all.c (s_imul (by decide +kernel) rfl) ?_
  refine am_all.c (s_iconst (by decide +kernel) (by decide) rfl) ?_
  refine am_all.c (s_iload (by decide +kernel) rfl) ?_
  refine am_all.c (s_imul (by decide +kernel) rfl) ?_
  refine am_all.c (s_iadd (by decide +kernel) rfl) ?_
  refine am_all.c (s_iconst (by decide +kernel) (by decide) rfl) ?_
  refine am_all.c (s_iadd (by decide +kernel) rfl) ?_
  refine am_all.c (s_iald rfl (by decide +kernel) rfl) ?_
  refine am_all.c (s_iast rfl (by decide +kernel) rfl) ?_
  refine am_all.c (s_aload_n (kf := 0) (by decide +kernel) rfl rfl) ?_
  refine am_all.c (s_get (C := cn_M) (Tf := ft_M) (N := 21) rfl fi_M (by decide) tw_561 (by decide +kernel) rfl) ?_
  refine am_all.c (s_iload_n (kf := 1) (by decide +kernel) rfl rfl) ?_
  refine am_all.c (s_dup2 (by decide +kernel) rfl) ?_
  refine am_all.c (s_iald rfl (by decide +kernel) rfl) ?_
  refine am_all.c (s_iconst (by decide +kernel) (by decide) rfl) ?_
  refine am_all.c (s_iadd (by decide +kernel) rfl) ?_
  refine am_all.c (s_iast rfl (by decide +kernel) rfl) ?_
  refine am_all.c (s_aload_n (kf := 0) (by decide +kernel) rfl rfl) ?_
  refine am_all.c (s_get (C := cn_M) (Tf := ft_M) (N := 21) rfl fi_M (by decide) tw_564 (by decide +kernel) rfl) ?_
  refine am_all.c (s_iload_n (kf := 1) (by decide +kernel) rfl rfl) ?_
  refine am_all.c (s_iload (by decide +kernel) rfl) ?_
  refine am_all.c (s_iast rfl (by decide +kernel) rfl) ?_
  refine am_all.c (s_iinc (by decide +kernel) rfl) ?_
  refine am_all.c (s_iinc (by decide +kernel) rfl) ?_
  refine am_all.c (s_goto (off := -126) (by decide +kernel) (by decide)) ?_
  refine am_all.c (s_iload_n (kf := 3) (by decide +kernel) rfl rfl) ?_
  refine am_all.c (s_iret (by decide +kernel) rfl) ?_
  exact trivial
set_option maxRecDepth 20000 in
theorem ga_M_update {D : va_G} {dA : Nat → ClassId} {h b L : Nat} {xs : Nat → Int32} (hN : am_nN (am_En D dA h b L xs)) : am_all (am_En D dA h b L xs) mv_tb mv_P tM_update kM_update := by
  unfold kM_update
  refine am_all.c (s_aload_n (kf := 0) (by decide +kernel) rfl rfl) ?_
  refine am_all.c (s_get (C := cn_M) (Tf := ft_M) (N := 21) rfl fi_M (by decide) tw_565 (by decide +kernel) rfl) ?_
  refine am_all.c (s_iload_n (kf := 1) (by decide +kernel) rfl rfl) ?_
  refine am_all.c (s_iconst (by decide +kernel) (by decide) rfl) ?_
  refine am_all.c (s_iast rfl (by decide +kernel) rfl) ?_
  refine am_all.c (s_iconst (by decide +kernel) (by decide) rfl) ?_
  refine am_all.c (s_istore_n (kf := 3) (by decide +kernel) rfl rfl) ?_
  refine am_all.c (s_iload_n (kf := 2) (by decide +kernel) rfl rfl) ?_
  refine am_all.c (s_if_eq (off := 44) (by decide +kernel) (by decide) rfl) ?_
  refine am_all.c (s_iload_n (kf := 3) (by decide +kernel) rfl rfl) ?_
  refine am_all.c (s_aload_n (kf := 0) (by decide +kernel) rfl rfl) ?_
  refine am_all.c (s_get (C := cn_M) (Tf := ft_M) (N := 21) rfl fi_M (by decide) tw_561 (by decide +kernel) rfl) ?_
  refine am_all.c (s_iload_n (kf := 1) (by decide +kernel) rfl rfl) ?_
  refine am_all.c (s_iald rfl (by decide +kernel) rfl) ?_
  refine am_all.c (s_icmp_gt (off := 34) (by decide +kernel) (by decide) rfl) ?_
  refine am_all.c (s_aload_n (kf := 0) (by decide +kernel) rfl rfl) ?_
  refine am_all.c (s_iload_n (kf := 1) (by decide +kernel) rfl rfl) ?_
  refine am_all.c (s_iload_n (kf := 3) (by decide +kernel) rfl rfl) ?_
  refine am_all.c (s_callV (q := (cn_M, ft_M, 21)) (by decide) (ce_M_gone hN) rfl rfl tw_667 tw_669 tw_29 (by decide +kernel) rfl) ?_
  refine am_all.c (s_if_eq (off := 19) (by decide +kernel) (by decide) rfl) ?_
  refine am_all.c (s_aload_n (kf := 0) (by decide +kernel) rfl rfl) ?_
  refine am_all.c (s_iload_n (kf := 1) (by decide +kernel) rfl rfl) ?_
  refine am_all.c (s_iload_n (kf := 3) (by decide +kernel) rfl rfl) ?_
  refine am_all.c (s_callV (q := (cn_M, ft_M, 21)) (by decide) (ce_M_leave hN) rfl rfl tw_675 tw_677 tw_31 (by decide +kernel) rfl) ?_
  refine am_all.c (s_aload_n (kf := 0) (by decide +kernel) rfl rfl) ?_
  refine am_all.c (s_iload_n (kf := 1) (by decide +kernel) rfl rfl) ?_
  refine am_all.c (s_iconst (by decide +kernel) (by decide) rfl) ?_
  refine am_all.c (s_iload_n (kf := 3) (by decide +kernel) rfl rfl) ?_
  refine am_all.c (s_callV (q := (cn_M, ft_M, 21)) (by decide) (ce_M_tell hN) rfl rfl tw_679 tw_681 tw_32 (by decide +kernel) rfl) ?_
  refine am_all.c (s_goto (off := -36) (by decide +kernel) (by decide)) ?_
  refine am_all.c (s_iinc (by decide +kernel) rfl) ?_
  refine am_all.c (s_goto (off := -42) (by decide +kernel) (by decide)) ?_
  refine am_all.c (s_aload_n (kf := 0) (by decide +kernel) rfl rfl) ?_
  refine am_all.c (s_iload_n (kf := 1) (by decide +kernel) rfl rfl) ?_
  refine am_all.c (s_callV (q := (cn_M, ft_M, 21)) (by decide) (ce_M_gather hN) rfl rfl tw_643 tw_645 tw_25 (by decide +kernel) rfl) ?_
  refine am_all.c (s_if_le (off := 15) (by decide +kernel) (by decide) rfl) ?_
  refine am_all.c (s_aload_n (kf := 0) (by decide +kernel) rfl rfl) ?_
  refine am_all.c (s_iload_n (kf := 1) (by decide +kernel) rfl rfl) ?_
  refine am_all.c (s_iconst (by decide +kernel) (by decide) rfl) ?_
  refine am_all.c (s_aload_n (kf := 0) (by decide +kernel) rfl rfl) ?_
  refine am_all.c (s_get (C := cn_M) (Tf := ft_M) (N := 21) rfl fi_M (by decide) tw_561 (by decide +kernel) rfl) ?_
  refine am_all.c (s_iload_n (kf := 1) (by decide +kernel) rfl rfl) ?_
  refine am_all.c (s_iald rfl (by decide +kernel) rfl) ?_
  refine am_all.c (s_callV (q := (cn_M, ft_M, 21)) (by decide) (ce_M_tell hN) rfl rfl tw_679 tw_681 tw_32 (by decide +kernel) rfl) ?_
  refine am_all.c (s_iconst (by decide +kernel) (by decide) rfl) ?_
  refine am_all.c (s_istore (by decide +kernel) rfl) ?_
  refine am_all.c (s_iload (by decide +kernel) rfl) ?_
  refine am_all.c (s_aload_n (kf := 0) (by decide +kernel) rfl rfl) ?_
  refine am_all.c (s_get (C := cn_M) (Tf := ft_M) (N := 21) rfl fi_M (by decide) tw_561 (by decide +kernel) rfl) ?_
  refine am_all.c (s_iload_n (kf := 1) (by decide +kernel) rfl rfl) ?_
  refine am_all.c (s_iald rfl (by decide +kernel) rfl) ?_
  refine am_all.c (s_icmp_gt (off := 87) (by decide +kernel) (by decide) rfl) ?_
  refine am_all.c (s_aload_n (kf := 0) (by decide +kernel) rfl rfl) ?_
  refine am_all.c (s_iload_n (kf := 1) (by decide +kernel) rfl rfl) ?_
  refine am_all.c (s_iload (by decide +kernel) rfl) ?_
  refine am_all.c (s_callV (q := (cn_M, ft_M, 21)) (by decide) (ce_M_gone hN) rfl rfl tw_667 tw_669 tw_29 (by decide +kernel) rfl) ?_
  refine am_all.c (s_if_eq (off := 6) (by decide +kernel) (by decide) rfl) ?_
  refine am_all.c (s_goto (off := 68) (by decide +kernel) (by decide)) ?_
  refine am_all.c (s_aload_n (kf := 0) (by decide +kernel) rfl rfl) ?_
  refine am_all.c (s_aload_n (kf := 0) (by decide +kernel) rfl rfl) ?_
  refine am_all.c (s_get (C := cn_M) (Tf := ft_M) (N := 21) rfl fi_M (by decide) tw_559 (by decide +kernel) rfl) ?_
  refine am_all.c (s_iload_n (kf := 1) (by decide +kernel) rfl rfl) ?_
  refine am_all.c (s_iald rfl (by decide +kernel) rfl) ?_
  refine am_all.c (s_aload_n (kf := 0) (by decide +kernel) rfl rfl) ?_
  refine am_all.c (s_iload_n (kf := 1) (by decide +kernel) rfl rfl) ?_
  refine am_all.c (s_iload (by decide +kernel) rfl) ?_
  refine am_all.c (s_callV (q := (cn_M, ft_M, 21)) (by decide) (ce_M_uidOf hN) rfl rfl tw_671 tw_673 tw_30 (by decide +kernel) rfl) ?_
  refine am_all.c (s_callV (q := (cn_M, ft_M, 21)) (by decide) (ce_M_flagsOf hN) rfl rfl tw_683 tw_685 tw_33 (by decide +kernel) rfl) ?_
  refine am_all.c (s_istore (by decide +kernel) rfl) ?_
  refine am_all.c (s_iload (by decide +kernel) rfl) ?_
  refine am_all.c (s_aload_n (kf := 0) (by decide +kernel) rfl rfl) ?_
  refine am_all.c (s_get (C := cn_M) (Tf := ft_M) (N := 21) rfl fi_M (by decide) tw_563 (by decide +kernel) rfl) ?_
  refine am_all.c (s_bipush (by decide +kernel) (by decide +kernel) (by decide) rfl) ?_
  refine am_all.c (s_iload_n (kf := 1) (by decide +kernel) rfl rfl) ?_
  refine am_all.c (s_imul (by decide +kernel) rfl) ?_
  refine am_all.c (s_iload (by decide +kernel) rfl) ?_
  refine am_all.c (s_iadd (by decide +kernel) rfl) ?_
  refine am_all.c (s_iconst (by decide +kernel) (by decide) rfl) ?_
  refine am_all.c (s_isub (by decide +kernel) rfl) ?_
  refine am_all.c (s_iald rfl (by decide +kernel) rfl) ?_
  refine am_all.c (s_icmp_ne (off := 6) (by decide +kernel) (by decide) rfl) ?_
  refine am_all.c (s_goto (off := 27) (by decide +kernel) (by decide)) ?_
  refine am_all.c (s_aload_n (kf := 0) (by decide +kernel) rfl rfl) ?_
  refine am_all.c (s_get (C := cn_M) (Tf := ft_M) (N := 21) rfl fi_M (by decide) tw_563 (by decide +kernel) rfl) ?_
  refine am_all.c (s_bipush (by decide +kernel) (by decide +kernel) (by decide) rfl) ?_
  refine am_all.c (s_iload_n (kf := 1) (by decide +kernel) rfl rfl) ?_
  refine am_all.c (s_imul (by decide +kernel) rfl) ?_
  refine am_all.c (s_iload (by decide +kernel) rfl) ?_
  refine am_all.c (s_iadd (by decide +kernel) rfl) ?_
  refine am_all.c (s_iconst (by decide +kernel) (by decide) rfl) ?_
  refine am_all.c (s_isub (by decide +kernel) rfl) ?_
  refine am_all.c (s_iload (by decide +kernel) rfl) ?_
  refine am_all.c (s_iast rfl (by decide +kernel) rfl) ?_
  refine am_all.c (s_aload_n (kf := 0) (by decide +kernel) rfl rfl) ?_
  refine am_all.c (s_iload_n (kf := 1) (by decide +kernel) rfl rfl) ?_
  refine am_all.c (s_iconst (by decide +kernel) (by decide) rfl) ?_
  refine am_all.c (s_iload (by decide +kernel) rfl) ?_
  refine am_all.c (s_callV (q := (cn_M, ft_M, 21)) (by decide) (ce_M_tell hN) rfl rfl tw_679 tw_681 tw_32 (by decide +kernel) rfl) ?_
  refine am_all.c (s_iinc (by decide +kernel) rfl) ?_
  refine am_all.c (s_goto (off := -92) (by decide +kernel) (by decide)) ?_
  refine am_all.c (s_vret (by decide +kernel) rfl) ?_
  exact trivial
set_option maxRecDepth 20000 in
theorem ga_M_select {D : va_G} {dA : Nat → ClassId} {h b L : Nat} {xs : Nat → Int32} (hN : am_nN (am_En D dA h b L xs)) : am_all (am_En D dA h b L xs) mv_tb mv_P tM_select kM_select := by
  unfold kM_select
  refine am_all.c (s_iload_n (kf := 1) (by decide +kernel) rfl rfl) ?_
  refine am_all.c (s_iconst (by decide +kernel) (by decide) rfl) ?_
  refine am_all.c (s_iconst (by decide +kernel) (by decide) rfl) ?_
  refine am_all.c (s_callS (by decide) (ce_M_in hN) tw_620 tw_621 (by decide +kernel) rfl) ?_
  refine am_all.c (s_if_eq (off := 12) (by decide +kernel) (by decide) rfl) ?_
  refine am_all.c (s_iload_n (kf := 2) (by decide +kernel) rfl rfl) ?_
  refine am_all.c (s_iconst (by decide +kernel) (by decide) rfl) ?_
  refine am_all.c (s_iconst (by decide +kernel) (by decide) rfl) ?_
  refine am_all.c (s_callS (by decide) (ce_M_in hN) tw_620 tw_621 (by decide +kernel) rfl) ?_
  refine am_all.c (s_if_ne (off := 5) (by decide +kernel) (by decide) rfl) ?_
  refine am_all.c (s_iconst (by decide +kernel) (by decide) rfl) ?_
  refine am_all.c (s_iret (by decide +kernel) rfl) ?_
  refine am_all.c (s_aload_n (kf := 0) (by decide +kernel) rfl rfl) ?_
  refine am_all.c (s_get (C := cn_M) (Tf := ft_M) (N := 21) rfl fi_M (by decide) tw_559 (by decide +kernel) rfl) ?_
  refine am_all.c (s_iload_n (kf := 1) (by decide +kernel) rfl rfl) ?_
  refine am_all.c (s_iload_n (kf := 2) (by decide +kernel) rfl rfl) ?_
  refine am_all.c (s_iast rfl (by decide +kernel) rfl) ?_
  refine am_all.c (s_aload_n (kf := 0) (by decide +kernel) rfl rfl) ?_
  refine am_all.c (s_get (C := cn_M) (Tf := ft_M) (N := 21) rfl fi_M (by decide) tw_560 (by decide +kernel) rfl) ?_
  refine am_all.c (s_iload_n (kf := 1) (by decide +kernel) rfl rfl) ?_
  refine am_all.c (s_iload_n (kf := 3) (by decide +kernel) rfl rfl) ?_
  refine am_all.c (s_zast rfl (by decide +kernel) rfl) ?_
  refine am_all.c (s_aload_n (kf := 0) (by decide +kernel) rfl rfl) ?_
  refine am_all.c (s_get (C := cn_M) (Tf := ft_M) (N := 21) rfl fi_M (by decide) tw_561 (by decide +kernel) rfl) ?_
  refine am_all.c (s_iload_n (kf := 1) (by decide +kernel) rfl rfl) ?_
  refine am_all.c (s_iconst (by decide +kernel) (by decide) rfl) ?_
  refine am_all.c (s_iast rfl (by decide +kernel) rfl) ?_
  refine am_all.c (s_aload_n (kf := 0) (by decide +kernel) rfl rfl) ?_
  refine am_all.c (s_get (C := cn_M) (Tf := ft_M) (N := 21) rfl fi_M (by decide) tw_564 (by decide +kernel) rfl) ?_
  refine am_all.c (s_iload_n (kf := 1) (by decide +kernel) rfl rfl) ?_
  refine am_all.c (s_iconst (by decide +kernel) (by decide) rfl) ?_
  refine am_all.c (s_iast rfl (by decide +kernel) rfl) ?_
  refine am_all.c (s_aload_n (kf := 0) (by decide +kernel) rfl rfl) ?_
  refine am_all.c (s_get (C := cn_M) (Tf := ft_M) (N := 21) rfl fi_M (by decide) tw_565 (by decide +kernel) rfl) ?_
  refine am_all.c (s_iload_n (kf := 1) (by decide +kernel) rfl rfl) ?_
  refine am_all.c (s_iconst (by decide +kernel) (by decide) rfl) ?_
  refine am_all.c (s_iast rfl (by decide +kernel) rfl) ?_
  refine am_all.c (s_aload_n (kf := 0) (by decide +kernel) rfl rfl) ?_
  refine am_all.c (s_iload_n (kf := 1) (by decide +kernel) rfl rfl) ?_
  refine am_all.c (s_callV (q := (cn_M, ft_M, 21)) (by decide) (ce_M_gather hN) rfl rfl tw_643 tw_645 tw_25 (by decide +kernel) rfl) ?_
  refine am_all.c (s_iret (by decide +kernel) rfl) ?_
  exact trivial
