/-! printed by wip/whole/gen/prog.py: each instruction against the abstract one -/
set_option maxRecDepth 20000 in
theorem ga_S_init {D : va_G} {dA : Nat → ClassId} {h b L : Nat} {xs : Nat → Int32} (hN : am_nN (am_En D dA h b L xs)) : am_all (am_En D dA h b L xs) mv_tb mv_P tS_init kS_init := by
  unfold kS_init
  refine am_all.c (s_aload_n (kf := 0) (by decide +kernel) rfl rfl) ?_
  refine am_all.c (s_obj mv_P0 tw_88 tw_53 tw_54 (by decide +kernel) rfl) ?_
  refine am_all.c (s_aload_n (kf := 0) (by decide +kernel) rfl rfl) ?_
  refine am_all.c (s_bipush (by decide +kernel) (by decide +kernel) (by decide) rfl) ?_
  refine am_all.c (s_newa (at0 := .int) rfl rfl (Or.inl rfl) tw_81 (by decide +kernel) rfl) ?_
  refine am_all.c (s_put (C := cn_S) (Tf := ft_S) (N := 9) (ty := .array .int) rfl fi_S fy_S fo_S fn_S (by decide) tw_89 (Or.inr ⟨rfl, rfl, rfl⟩) (by decide +kernel) (Or.inr (Or.inr ⟨rfl, Or.inr ⟨_, rfl⟩⟩)) (by decide +kernel) rfl) ?_
  refine am_all.c (s_aload_n (kf := 0) (by decide +kernel) rfl rfl) ?_
  refine am_all.c (s_bipush (by decide +kernel) (by decide +kernel) (by decide) rfl) ?_
  refine am_all.c (s_newa (at0 := .int) rfl rfl (Or.inl rfl) tw_81 (by decide +kernel) rfl) ?_
  refine am_all.c (s_put (C := cn_S) (Tf := ft_S) (N := 9) (ty := .array .int) rfl fi_S fy_S fo_S fn_S (by decide) tw_90 (Or.inr ⟨rfl, rfl, rfl⟩) (by decide +kernel) (Or.inr (Or.inr ⟨rfl, Or.inr ⟨_, rfl⟩⟩)) (by decide +kernel) rfl) ?_
  refine am_all.c (s_aload_n (kf := 0) (by decide +kernel) rfl rfl) ?_
  refine am_all.c (s_bipush (by decide +kernel) (by decide +kernel) (by decide) rfl) ?_
  refine am_all.c (s_newa (at0 := .int) rfl rfl (Or.inl rfl) tw_81 (by decide +kernel) rfl) ?_
  refine am_all.c (s_put (C := cn_S) (Tf := ft_S) (N := 9) (ty := .array .int) rfl fi_S fy_S fo_S fn_S (by decide) tw_91 (Or.inr ⟨rfl, rfl, rfl⟩) (by decide +kernel) (Or.inr (Or.inr ⟨rfl, Or.inr ⟨_, rfl⟩⟩)) (by decide +kernel) rfl) ?_
  refine am_all.c (s_aload_n (kf := 0) (by decide +kernel) rfl rfl) ?_
  refine am_all.c (s_bipush (by decide +kernel) (by decide +kernel) (by decide) rfl) ?_
  refine am_all.c (s_newa (at0 := .int) rfl rfl (Or.inl rfl) tw_81 (by decide +kernel) rfl) ?_
  refine am_all.c (s_put (C := cn_S) (Tf := ft_S) (N := 9) (ty := .array .int) rfl fi_S fy_S fo_S fn_S (by decide) tw_92 (Or.inr ⟨rfl, rfl, rfl⟩) (by decide +kernel) (Or.inr (Or.inr ⟨rfl, Or.inr ⟨_, rfl⟩⟩)) (by decide +kernel) rfl) ?_
  refine am_all.c (s_aload_n (kf := 0) (by decide +kernel) rfl rfl) ?_
  refine am_all.c (s_iconst (by decide +kernel) (by decide) rfl) ?_
  refine am_all.c (s_put (C := cn_S) (Tf := ft_S) (N := 9) (ty := .int) rfl fi_S fy_S fo_S fn_S (by decide) tw_93 (Or.inl rfl) (by decide +kernel) (Or.inl ⟨rfl, rfl⟩) (by decide +kernel) rfl) ?_
  refine am_all.c (s_aload_n (kf := 0) (by decide +kernel) rfl rfl) ?_
  refine am_all.c (s_iconst (by decide +kernel) (by decide) rfl) ?_
  refine am_all.c (s_put (C := cn_S) (Tf := ft_S) (N := 9) (ty := .boolean) rfl fi_S fy_S fo_S fn_S (by decide) tw_94 (Or.inl rfl) (by decide +kernel) (Or.inr (Or.inl ⟨rfl, rfl⟩)) (by decide +kernel) rfl) ?_
  refine am_all.c (s_aload_n (kf := 0) (by decide +kernel) rfl rfl) ?_
  refine am_all.c (s_iconst (by decide +kernel) (by decide) rfl) ?_
  refine am_all.c (s_put (C := cn_S) (Tf := ft_S) (N := 9) (ty := .int) rfl fi_S fy_S fo_S fn_S (by decide) tw_95 (Or.inl rfl) (by decide +kernel) (Or.inl ⟨rfl, rfl⟩) (by decide +kernel) rfl) ?_
  refine am_all.c (s_aload_n (kf := 0) (by decide +kernel) rfl rfl) ?_
  refine am_all.c (s_iconst (by decide +kernel) (by decide) rfl) ?_
  refine am_all.c (s_put (C := cn_S) (Tf := ft_S) (N := 9) (ty := .int) rfl fi_S fy_S fo_S fn_S (by decide) tw_96 (Or.inl rfl) (by decide +kernel) (Or.inl ⟨rfl, rfl⟩) (by decide +kernel) rfl) ?_
  refine am_all.c (s_aload_n (kf := 0) (by decide +kernel) rfl rfl) ?_
  refine am_all.c (s_iconst (by decide +kernel) (by decide) rfl) ?_
  refine am_all.c (s_put (C := cn_S) (Tf := ft_S) (N := 9) (ty := .int) rfl fi_S fy_S fo_S fn_S (by decide) tw_97 (Or.inl rfl) (by decide +kernel) (Or.inl ⟨rfl, rfl⟩) (by decide +kernel) rfl) ?_
  refine am_all.c (s_vret (by decide +kernel) rfl) ?_
  exact trivial
set_option maxRecDepth 20000 in
theorem ga_S_open {D : va_G} {dA : Nat → ClassId} {h b L : Nat} {xs : Nat → Int32} (hN : am_nN (am_En D dA h b L xs)) : am_all (am_En D dA h b L xs) mv_tb mv_P tS_open kS_open := by
  unfold kS_open
  refine am_all.c (s_aload_n (kf := 0) (by decide +kernel) rfl rfl) ?_
  refine am_all.c (s_iload_n (kf := 1) (by decide +kernel) rfl rfl) ?_
  refine am_all.c (s_put (C := cn_S) (Tf := ft_S) (N := 9) (ty := .int) rfl fi_S fy_S fo_S fn_S (by decide) tw_93 (Or.inl rfl) (by decide +kernel) (Or.inl ⟨rfl, rfl⟩) (by decide +kernel) rfl) ?_
  refine am_all.c (s_aload_n (kf := 0) (by decide +kernel) rfl rfl) ?_
  refine am_all.c (s_iload_n (kf := 2) (by decide +kernel) rfl rfl) ?_
  refine am_all.c (s_put (C := cn_S) (Tf := ft_S) (N := 9) (ty := .boolean) rfl fi_S fy_S fo_S fn_S (by decide) tw_94 (Or.inl rfl) (by decide +kernel) (Or.inr (Or.inl ⟨rfl, rfl⟩)) (by decide +kernel) rfl) ?_
  refine am_all.c (s_aload_n (kf := 0) (by decide +kernel) rfl rfl) ?_
  refine am_all.c (s_iconst (by decide +kernel) (by decide) rfl) ?_
  refine am_all.c (s_put (C := cn_S) (Tf := ft_S) (N := 9) (ty := .int) rfl fi_S fy_S fo_S fn_S (by decide) tw_95 (Or.inl rfl) (by decide +kernel) (Or.inl ⟨rfl, rfl⟩) (by decide +kernel) rfl) ?_
  refine am_all.c (s_aload_n (kf := 0) (by decide +kernel) rfl rfl) ?_
  refine am_all.c (s_iconst (by decide +kernel) (by decide) rfl) ?_
  refine am_all.c (s_put (C := cn_S) (Tf := ft_S) (N := 9) (ty := .int) rfl fi_S fy_S fo_S fn_S (by decide) tw_97 (Or.inl rfl) (by decide +kernel) (Or.inl ⟨rfl, rfl⟩) (by decide +kernel) rfl) ?_
  refine am_all.c (s_aload_n (kf := 0) (by decide +kernel) rfl rfl) ?_
  refine am_all.c (s_aload_n (kf := 3) (by decide +kernel) rfl rfl) ?_
  refine am_all.c (s_callV (q := (cn_S, ft_S, 9)) (by decide) (ce_S_takeInNew hN) rfl rfl tw_247 tw_249 tw_3 (by decide +kernel) rfl) ?_
  refine am_all.c (s_aload_n (kf := 0) (by decide +kernel) rfl rfl) ?_
  refine am_all.c (s_iconst (by decide +kernel) (by decide) rfl) ?_
  refine am_all.c (s_put (C := cn_S) (Tf := ft_S) (N := 9) (ty := .int) rfl fi_S fy_S fo_S fn_S (by decide) tw_96 (Or.inl rfl) (by decide +kernel) (Or.inl ⟨rfl, rfl⟩) (by decide +kernel) rfl) ?_
  refine am_all.c (s_vret (by decide +kernel) rfl) ?_
  exact trivial
set_option maxRecDepth 20000 in
theorem ga_S_leave {D : va_G} {dA : Nat → ClassId} {h b L : Nat} {xs : Nat → Int32} (hN : am_nN (am_En D dA h b L xs)) : am_all (am_En D dA h b L xs) mv_tb mv_P tS_leave kS_leave := by
  unfold kS_leave
  refine am_all.c (s_aload_n (kf := 0) (by decide +kernel) rfl rfl) ?_
  refine am_all.c (s_iconst (by decide +kernel) (by decide) rfl) ?_
  refine am_all.c (s_put (C := cn_S) (Tf := ft_S) (N := 9) (ty := .int) rfl fi_S fy_S fo_S fn_S (by decide) tw_93 (Or.inl rfl) (by decide +kernel) (Or.inl ⟨rfl, rfl⟩) (by decide +kernel) rfl) ?_
  refine am_all.c (s_aload_n (kf := 0) (by decide +kernel) rfl rfl) ?_
  refine am_all.c (s_iconst (by decide +kernel) (by decide) rfl) ?_
  refine am_all.c (s_put (C := cn_S) (Tf := ft_S) (N := 9) (ty := .boolean) rfl fi_S fy_S fo_S fn_S (by decide) tw_94 (Or.inl rfl) (by decide +kernel) (Or.inr (Or.inl ⟨rfl, rfl⟩)) (by decide +kernel) rfl) ?_
  refine am_all.c (s_aload_n (kf := 0) (by decide +kernel) rfl rfl) ?_
  refine am_all.c (s_iconst (by decide +kernel) (by decide) rfl) ?_
  refine am_all.c (s_put (C := cn_S) (Tf := ft_S) (N := 9) (ty := .int) rfl fi_S fy_S fo_S fn_S (by decide) tw_95 (Or.inl rfl) (by decide +kernel) (Or.inl ⟨rfl, rfl⟩) (by decide +kernel) rfl) ?_
  refine am_all.c (s_aload_n (kf := 0) (by decide +kernel) rfl rfl) ?_
  refine am_all.c (s_iconst (by decide +kernel) (by decide) rfl) ?_
  refine am_all.c (s_put (C := cn_S) (Tf := ft_S) (N := 9) (ty := .int) rfl fi_S fy_S fo_S fn_S (by decide) tw_96 (Or.inl rfl) (by decide +kernel) (Or.inl ⟨rfl, rfl⟩) (by decide +kernel) rfl) ?_
  refine am_all.c (s_vret (by decide +kernel) rfl) ?_
  exact trivial
set_option maxRecDepth 20000 in
theorem ga_S_mailboxNumber {D : va_G} {dA : Nat → ClassId} {h b L : Nat} {xs : Nat → Int32} (hN : am_nN (am_En D dA h b L xs)) : am_all (am_En D dA h b L xs) mv_tb mv_P tS_mailboxNumber kS_mailboxNumber := by
  unfold kS_mailboxNumber
  refine am_all.c (s_aload_n (kf := 0) (by decide +kernel) rfl rfl) ?_
  refine am_all.c (s_get (C := cn_S) (Tf := ft_S) (N := 9) rfl fi_S (by decide) tw_93 (by decide +kernel) rfl) ?_
  refine am_all.c (s_iret (by decide +kernel) rfl) ?_
  exact trivial
set_option maxRecDepth 20000 in
theorem ga_S_isReadOnly {D : va_G} {dA : Nat → ClassId} {h b L : Nat} {xs : Nat → Int32} (hN : am_nN (am_En D dA h b L xs)) : am_all (am_En D dA h b L xs) mv_tb mv_P tS_isReadOnly kS_isReadOnly := by
  unfold kS_isReadOnly
  refine am_all.c (s_aload_n (kf := 0) (by decide +kernel) rfl rfl) ?_
  refine am_all.c (s_get (C := cn_S) (Tf := ft_S) (N := 9) rfl fi_S (by decide) tw_94 (by decide +kernel) rfl) ?_
  refine am_all.c (s_zret (by decide +kernel) rfl) ?_
  exact trivial
set_option maxRecDepth 20000 in
theorem ga_S_viewLength {D : va_G} {dA : Nat → ClassId} {h b L : Nat} {xs : Nat → Int32} (hN : am_nN (am_En D dA h b L xs)) : am_all (am_En D dA h b L xs) mv_tb mv_P tS_viewLength kS_viewLength := by
  unfold kS_viewLength
  refine am_all.c (s_aload_n (kf := 0) (by decide +kernel) rfl rfl) ?_
  refine am_all.c (s_get (C := cn_S) (Tf := ft_S) (N := 9) rfl fi_S (by decide) tw_95 (by decide +kernel) rfl) ?_
  refine am_all.c (s_iret (by decide +kernel) rfl) ?_
  exact trivial
set_option maxRecDepth 20000 in
theorem ga_S_uidOf {D : va_G} {dA : Nat → ClassId} {h b L : Nat} {xs : Nat → Int32} (hN : am_nN (am_En D dA h b L xs)) : am_all (am_En D dA h b L xs) mv_tb mv_P tS_uidOf kS_uidOf := by
  unfold kS_uidOf
  refine am_all.c (s_aload_n (kf := 0) (by decide +kernel) rfl rfl) ?_
  refine am_all.c (s_get (C := cn_S) (Tf := ft_S) (N := 9) rfl fi_S (by decide) tw_89 (by decide +kernel) rfl) ?_
  refine am_all.c (s_iload_n (kf := 1) (by decide +kernel) rfl rfl) ?_
  refine am_all.c (s_iconst (by decide +kernel) (by decide) rfl) ?_
  refine am_all.c (s_isub (by decide +kernel) rfl) ?_
  refine am_all.c (s_iald rfl (by decide +kernel) rfl) ?_
  refine am_all.c (s_iret (by decide +kernel) rfl) ?_
  exact trivial
set_option maxRecDepth 20000 in
theorem ga_S_knownFlagsOf {D : va_G} {dA : Nat → ClassId} {h b L : Nat} {xs : Nat → Int32} (hN : am_nN (am_En D dA h b L xs)) : am_all (am_En D dA h b L xs) mv_tb mv_P tS_knownFlagsOf kS_knownFlagsOf := by
  unfold kS_knownFlagsOf
  refine am_all.c (s_aload_n (kf := 0) (by decide +kernel) rfl rfl) ?_
  refine am_all.c (s_get (C := cn_S) (Tf := ft_S) (N := 9) rfl fi_S (by decide) tw_90 (by decide +kernel) rfl) ?_
  refine am_all.c (s_iload_n (kf := 1) (by decide +kernel) rfl rfl) ?_
  refine am_all.c (s_iconst (by decide +kernel) (by decide) rfl) ?_
  refine am_all.c (s_isub (by decide +kernel) rfl) ?_
  refine am_all.c (s_iald rfl (by decide +kernel) rfl) ?_
  refine am_all.c (s_iret (by decide +kernel) rfl) ?_
  exact trivial
set_option maxRecDepth 20000 in
theorem ga_S_know {D : va_G} {dA : Nat → ClassId} {h b L : Nat} {xs : Nat → Int32} (hN : am_nN (am_En D dA h b L xs)) : am_all (am_En D dA h b L xs) mv_tb mv_P tS_know kS_know := by
  unfold kS_know
  refine am_all.c (s_aload_n (kf := 0) (by decide +kernel) rfl rfl) ?_
  refine am_all.c (s_get (C := cn_S) (Tf := ft_S) (N := 9) rfl fi_S (by decide) tw_90 (by decide +kernel) rfl) ?_
  refine am_all.c (s_iload_n (kf := 1) (by decide +kernel) rfl rfl) ?_
  refine am_all.c (s_iconst (by decide +kernel) (by decide) rfl) ?_
  refine am_all.c (s_isub (by decide +kernel) rfl) ?_
  refine am_all.c (s_iload_n (kf := 2) (by decide +kernel) rfl rfl) ?_
  refine am_all.c (s_iast rfl (by decide +kernel) rfl) ?_
  refine am_all.c (s_vret (by decide +kernel) rfl) ?_
  exact trivial
set_option maxRecDepth 20000 in
theorem ga_S_noticeCount {D : va_G} {dA : Nat → ClassId} {h b L : Nat} {xs : Nat → Int32} (hN : am_nN (am_En D dA h b L xs)) : am_all (am_En D dA h b L xs) mv_tb mv_P tS_noticeCount kS_noticeCount := by
  unfold kS_noticeCount
  refine am_all.c (s_aload_n (kf := 0) (by decide +kernel) rfl rfl) ?_
  refine am_all.c (s_get (C := cn_S) (Tf := ft_S) (N := 9) rfl fi_S (by decide) tw_96 (by decide +kernel) rfl) ?_
  refine am_all.c (s_iret (by decide +kernel) rfl) ?_
  exact trivial
set_option maxRecDepth 20000 in
theorem ga_S_noticeKindAt {D : va_G} {dA : Nat → ClassId} {h b L : Nat} {xs : Nat → Int32} (hN : am_nN (am_En D dA h b L xs)) : am_all (am_En D dA h b L xs) mv_tb mv_P tS_noticeKindAt kS_noticeKindAt := by
  unfold kS_noticeKindAt
  refine am_all.c (s_aload_n (kf := 0) (by decide +kernel) rfl rfl) ?_
  refine am_all.c (s_get (C := cn_S) (Tf := ft_S) (N := 9) rfl fi_S (by decide) tw_91 (by decide +kernel) rfl) ?_
  refine am_all.c (s_iload_n (kf := 1) (by decide +kernel) rfl rfl) ?_
  refine am_all.c (s_iald rfl (by decide +kernel) rfl) ?_
  refine am_all.c (s_iret (by decide +kernel) rfl) ?_
  exact trivial
set_option maxRecDepth 20000 in
theorem ga_S_noticeNumberAt {D : va_G} {dA : Nat → ClassId} {h b L : Nat} {xs : Nat → Int32} (hN : am_nN (am_En D dA h b L xs)) : am_all (am_En D dA h b L xs) mv_tb mv_P tS_noticeNumberAt kS_noticeNumberAt := by
  unfold kS_noticeNumberAt
  refine am_all.c (s_aload_n (kf := 0) (by decide +kernel) rfl rfl) ?_
  refine am_all.c (s_get (C := cn_S) (Tf := ft_S) (N := 9) rfl fi_S (by decide) tw_92 (by decide +kernel) rfl) ?_
  refine am_all.c (s_iload_n (kf := 1) (by decide +kernel) rfl rfl) ?_
  refine am_all.c (s_iald rfl (by decide +kernel) rfl) ?_
  refine am_all.c (s_iret (by decide +kernel) rfl) ?_
  exact trivial
set_option maxRecDepth 20000 in
theorem ga_S_update {D : va_G} {dA : Nat → ClassId} {h b L : Nat} {xs : Nat → Int32} (hN : am_nN (am_En D dA h b L xs)) : am_all (am_En D dA h b L xs) mv_tb mv_P tS_update kS_update := by
  unfold kS_update
  refine am_all.c (s_aload_n (kf := 0) (by decide +kernel) rfl rfl) ?_
  refine am_all.c (s_iconst (by decide +kernel) (by decide) rfl) ?_
  refine am_all.c (s_put (C := cn_S) (Tf := ft_S) (N := 9) (ty := .int) rfl fi_S fy_S fo_S fn_S (by decide) tw_96 (Or.inl rfl) (by decide +kernel) (Or.inl ⟨rfl, rfl⟩) (by decide +kernel) rfl) ?_
  refine am_all.c (s_iload_n (kf := 2) (by decide +kernel) rfl rfl) ?_
  refine am_all.c (s_if_eq (off := 8) (by decide +kernel) (by decide) rfl) ?_
  refine am_all.c (s_aload_n (kf := 0) (by decide +kernel) rfl rfl) ?_
  refine am_all.c (s_aload_n (kf := 1) (by decide +kernel) rfl rfl) ?_
  refine am_all.c (s_callV (q := (cn_S, ft_S, 9)) (by decide) (ce_S_dropGone hN) rfl rfl tw_322 tw_324 tw_8 (by decide +kernel) rfl) ?_
  refine am_all.c (s_aload_n (kf := 0) (by decide +kernel) rfl rfl) ?_
  refine am_all.c (s_get (C := cn_S) (Tf := ft_S) (N := 9) rfl fi_S (by decide) tw_95 (by decide +kernel) rfl) ?_
  refine am_all.c (s_istore_n (kf := 3) (by decide +kernel) rfl rfl) ?_
  refine am_all.c (s_aload_n (kf := 0) (by decide +kernel) rfl rfl) ?_
  refine am_all.c (s_aload_n (kf := 1) (by decide +kernel) rfl rfl) ?_
  refine am_all.c (s_callV (q := (cn_S, ft_S, 9)) (by decide) (ce_S_takeInNew hN) rfl rfl tw_247 tw_249 tw_3 (by decide +kernel) rfl) ?_
  refine am_all.c (s_aload_n (kf := 0) (by decide +kernel) rfl rfl) ?_
  refine am_all.c (s_get (C := cn_S) (Tf := ft_S) (N := 9) rfl fi_S (by decide) tw_95 (by decide +kernel) rfl) ?_
  refine am_all.c (s_iload_n (kf := 3) (by decide +kernel) rfl rfl) ?_
  refine am_all.c (s_icmp_le (off := 12) (by decide +kernel) (by decide) rfl) ?_
  refine am_all.c (s_aload_n (kf := 0) (by decide +kernel) rfl rfl) ?_
  refine am_all.c (s_iconst (by decide +kernel) (by decide) rfl) ?_
  refine am_all.c (s_aload_n (kf := 0) (by decide +kernel) rfl rfl) ?_
  refine am_all.c (s_get (C := cn_S) (Tf := ft_S) (N := 9) rfl fi_S (by decide) tw_95 (by decide +kernel) rfl) ?_
  refine am_all.c (s_callV (q := (cn_S, ft_S, 9)) (by decide) (ce_S_tell hN) rfl rfl tw_330 tw_332 tw_9 (by decide +kernel) rfl) ?_
  refine am_all.c (s_aload_n (kf := 0) (by decide +kernel) rfl rfl) ?_
  refine am_all.c (s_aload_n (kf := 1) (by decide +kernel) rfl rfl) ?_
  refine am_all.c (s_callV (q := (cn_S, ft_S, 9)) (by decide) (ce_S_learnFlags hN) rfl rfl tw_334 tw_336 tw_10 (by decide +kernel) rfl) ?_
  refine am_all.c (s_vret (by decide +kernel) rfl) ?_
  exact trivial
set_option maxRecDepth 20000 in
theorem ga_S_dropGone {D : va_G} {dA : Nat → ClassId} {h b L : Nat} {xs : Nat → Int32} (hN : am_nN (am_En D dA h b L xs)) : am_all (am_En D dA h b L xs) mv_tb mv_P tS_dropGone kS_dropGone := by
  unfold kS_dropGone
  refine am_all.c (s_iconst (by decide +kernel) (by decide) rfl) ?_
  refine am_all.c (s_istore_n (kf := 2) (by decide +kernel) rfl rfl) ?_
  refine am_all.c (s_iconst (by decide +kernel) (by decide) rfl) ?_
  refine am_all.c (s_istore_n (kf := 3) (by decide +kernel) rfl rfl) ?_
  refine am_all.c (s_iload_n (kf := 3) (by decide +kernel) rfl rfl) ?_
  refine am_all.c (s_aload_n (kf := 0) (by decide +kernel) rfl rfl) ?_
  refine am_all.c (s_get (C := cn_S) (Tf := ft_S) (N := 9) rfl fi_S (by decide) tw_95 (by decide +kernel) rfl) ?_
  refine am_all.c (s_icmp_ge (off := 61) (by decide +kernel) (by decide) rfl) ?_
  refine am_all.c (s_aload_n (kf := 1) (by decide +kernel) rfl rfl) ?_
  refine am_all.c (s_aload_n (kf := 0) (by decide +kernel) rfl rfl) ?_
  refine am_all.c (s_get (C := cn_S) (Tf := ft_S) (N := 9) rfl fi_S (by decide) tw_89 (by decide +kernel) rfl) ?_
  refine am_all.c (s_iload_n (kf := 3) (by decide +kernel) rfl rfl) ?_
  refine am_all.c (s_iald rfl (by decide +kernel) rfl) ?_
  refine am_all.c (s_callV (q := (cn_B, ft_B, 6)) (by decide) (ce_B_positionOf hN) rfl rfl tw_326 tw_327 tw_328 (by decide +kernel) rfl) ?_
  refine am_all.c (s_iconst (by decide +kernel) (by decide) rfl) ?_
  refine am_all.c (s_icmp_ne (off := 14) (by decide +kernel) (by decide) rfl) ?_
  refine am_all.c (s_aload_n (kf := 0) (by decide +kernel) rfl rfl) ?_
  refine am_all.c (s_iconst (by decide +kernel) (by decide) rfl) ?_
  refine am_all.c (s_iload_n (kf := 2) (by decide +kernel) rfl rfl) ?_
  refine am_all.c (s_iconst (by decide +kernel) (by decide) rfl) ?_
  refine am_all.c (s_iadd (by decide +kernel) rfl) ?_
  refine am_all.c (s_callV (q := (cn_S, ft_S, 9)) (by decide) (ce_S_tell hN) rfl rfl tw_330 tw_332 tw_9 (by decide +kernel) rfl) ?_
  refine am_all.c (s_goto (off := 30) (by decide +kernel) (by decide)) ?_
  refine am_all.c (s_aload_n (kf := 0) (by decide +kernel) rfl rfl) ?_
  refine am_all.c (s_get (C := cn_S) (Tf := ft_S) (N := 9) rfl fi_S (by decide) tw_89 (by decide +kernel) rfl) ?_
  refine am_all.c (s_iload_n (kf := 2) (by decide +kernel) rfl rfl) ?_
  refine am_all.c (s_aload_n (kf := 0) (by decide +kernel) rfl rfl) ?_
  refine am_all.c (s_get (C := cn_S) (Tf := ft_S) (N := 9) rfl fi_S (by decide) tw_89 (by decide +kernel) rfl) ?_
  refine am_all.c (s_iload_n (kf := 3) (by decide +kernel) rfl rfl) ?_
  refine am_all.c (s_iald rfl (by decide +kernel) rfl) ?_
  refine am_all.c (s_iast rfl (by decide +kernel) rfl) ?_
  refine am_all.c (s_aload_n (kf := 0) (by decide +kernel) rfl rfl) ?_
  refine am_all.c (s_get (C := cn_S) (Tf := ft_S) (N := 9) rfl fi_S (by decide) tw_90 (by decide +kernel) rfl) ?_
  refine am_all.c (s_iload_n (kf := 2) (by decide +kernel) rfl rfl) ?_
  refine am_all.c (s_aload_n (kf := 0) (by decide +kernel) rfl rfl) ?_
  refine am_all.c (s_get (C := cn_S) (Tf := ft_S) (N := 9) rfl fi_S (by decide) tw_90 (by decide +kernel) rfl) ?_
  refine am_all.c (s_iload_n (kf := 3) (by decide +kernel) rfl rfl) ?_
  refine am_all.c (s_iald rfl (by decide +kernel) rfl) ?_
  refine am_all.c (s_iast rfl (by decide +kernel) rfl) ?_
  refine am_all.c (s_iinc (by decide +kernel) rfl) ?_
  refine am_all.c (s_iinc (by decide +kernel) rfl) ?_
  refine am_all.c (s_goto (off := -63) (by decide +kernel) (by decide)) ?_
  refine am_all.c (s_aload_n (kf := 0) (by decide +kernel) rfl rfl) ?_
  refine am_all.c (s_iload_n (kf := 2) (by decide +kernel) rfl rfl) ?_
  refine am_all.c (s_put (C := cn_S) (Tf := ft_S) (N := 9) (ty := .int) rfl fi_S fy_S fo_S fn_S (by decide) tw_95 (Or.inl rfl) (by decide +kernel) (Or.inl ⟨rfl, rfl⟩) (by decide +kernel) rfl) ?_
  refine am_all.c (s_vret (by decide +kernel) rfl) ?_
  exact trivial
set_option maxRecDepth 20000 in
theorem ga_S_takeInNew {D : va_G} {dA : Nat → ClassId} {h b L : Nat} {xs : Nat → Int32} (hN : am_nN (am_En D dA h b L xs)) : am_all (am_En D dA h b L xs) mv_tb mv_P tS_takeInNew kS_takeInNew := by
  unfold kS_takeInNew
  refine am_all.c (s_iconst (by decide +kernel) (by decide) rfl) ?_
  refine am_all.c (s_istore_n (kf := 2) (by decide +kernel) rfl rfl) ?_
  refine am_all.c (s_iload_n (kf := 2) (by decide +kernel) rfl rfl) ?_
  refine am_all.c (s_aload_n (kf := 1) (by decide +kernel) rfl rfl) ?_
  refine am_all.c (s_callV (q := (cn_B, ft_B, 6)) (by decide) (ce_B_messageCount hN) rfl rfl tw_251 tw_252 tw_253 (by decide +kernel) rfl) ?_
  refine am_all.c (s_icmp_ge (off := 76) (by decide +kernel) (by decide) rfl) ?_
  refine am_all.c (s_aload_n (kf := 0) (by decide +kernel) rfl rfl) ?_
  refine am_all.c (s_get (C := cn_S) (Tf := ft_S) (N := 9) rfl fi_S (by decide) tw_95 (by decide +kernel) rfl) ?_
  refine am_all.c (s_bipush (by decide +kernel) (by decide +kernel) (by decide) rfl) ?_
  refine am_all.c (s_icmp_ge (off := 67) (by decide +kernel) (by decide) rfl) ?_
  refine am_all.c (s_aload_n (kf := 1) (by decide +kernel) rfl rfl) ?_
  refine am_all.c (s_iload_n (kf := 2) (by decide +kernel) rfl rfl) ?_
  refine am_all.c (s_callV (q := (cn_B, ft_B, 6)) (by decide) (ce_B_uidAt hN) rfl rfl tw_255 tw_256 tw_257 (by decide +kernel) rfl) ?_
  refine am_all.c (s_aload_n (kf := 0) (by decide +kernel) rfl rfl) ?_
  refine am_all.c (s_get (C := cn_S) (Tf := ft_S) (N := 9) rfl fi_S (by decide) tw_97 (by decide +kernel) rfl) ?_
  refine am_all.c (s_icmp_le (off := 49) (by decide +kernel) (by decide) rfl) ?_
  refine am_all.c (s_aload_n (kf := 0) (by decide +kernel) rfl rfl) ?_
  refine am_all.c (s_aload_n (kf := 1) (by decide +kernel) rfl rfl) ?_
  refine am_all.c (s_iload_n (kf := 2) (by decide +kernel) rfl rfl) ?_
  refine am_all.c (s_callV (q := (cn_B, ft_B, 6)) (by decide) (ce_B_uidAt hN) rfl rfl tw_255 tw_256 tw_257 (by decide +kernel) rfl) ?_
  refine am_all.c (s_put (C := cn_S) (Tf := ft_S) (N := 9) (ty := .int) rfl fi_S fy_S fo_S fn_S (by decide) tw_97 (Or.inl rfl) (by decide +kernel) (Or.inl ⟨rfl, rfl⟩) (by decide +kernel) rfl) ?_
  refine am_all.c (s_aload_n (kf := 0) (by decide +kernel) rfl rfl) ?_
  refine am_all.c (s_get (C := cn_S) (Tf := ft_S) (N := 9) rfl fi_S (by decide) tw_89 (by decide +kernel) rfl) ?_
  refine am_all.c (s_aload_n (kf := 0) (by decide +kernel) rfl rfl) ?_
  refine am_all.c (s_get (C := cn_S) (Tf := ft_S) (N := 9) rfl fi_S (by decide) tw_95 (by decide +kernel) rfl) ?_
  refine am_all.c (s_aload_n (kf := 0) (by decide +kernel) rfl rfl) ?_
  refine am_all.c (s_get (C := cn_S) (Tf := ft_S) (N := 9) rfl fi_S (by decide) tw_97 (by decide +kernel) rfl) ?_
  refine am_all.c (s_iast rfl (by decide +kernel) rfl) ?_
  refine am_all.c (s_aload_n (kf := 0) (by decide +kernel) rfl rfl) ?_
  refine am_all.c (s_get (C := cn_S) (Tf := ft_S) (N := 9) rfl fi_S (by decide) tw_90 (by decide +kernel) rfl) ?_
  refine am_all.c (s_aload_n (kf := 0) (by decide +kernel) rfl rfl) ?_
  refine am_all.c (s_get (C := cn_S) (Tf := ft_S) (N := 9) rfl fi_S (by decide) tw_95 (by decide +kernel) rfl) ?_
  refine am_all.c (s_aload_n (kf := 1) (by decide +kernel) rfl rfl) ?_
  refine am_all.c (s_iload_n (kf := 2) (by decide +kernel) rfl rfl) ?_
  refine am_all.c (s_callV (q := (cn_B, ft_B, 6)) (by decide) (ce_B_flagsAt hN) rfl rfl tw_259 tw_260 tw_261 (by decide +kernel) rfl) ?_
  refine am_all.c (s_iast rfl (by decide +kernel) rfl) ?_
  refine am_all.c (s_aload_n (kf := 0) (by decide +kernel) rfl rfl) ?_
  refine am_all.c (s_dup (by decide +kernel) rfl) ?_
  refine am_all.c (s_get (C := cn_S) (Tf := ft_S) (N := 9) rfl fi_S (by decide) tw_95 (by decide +kernel) rfl) ?_
  refine am_all.c (s_iconst (by decide +kernel) (by decide) rfl) ?_
  refine am_all.c (s_iadd (by decide +kernel) rfl) ?_
  refine am_all.c (s_put (C := cn_S) (Tf := ft_S) (N := 9) (ty := .int) rfl fi_S fy_S fo_S fn_S (by decide) tw_95 (Or.inl rfl) (by decide +kernel) (Or.inl ⟨rfl, rfl⟩) (by decide +kernel) rfl) ?_
  refine am_all.c (s_iinc (by decide +kernel) rfl) ?_
  refine am_all.c (s_goto (off := -78) (by decide +kernel) (by decide)) ?_
  refine am_all.c (s_vret (by decide +kernel) rfl) ?_
  exact trivial
set_option maxRecDepth 20000 in
theorem ga_S_learnFlags {D : va_G} {dA : Nat → ClassId} {h b L : Nat} {xs : Nat → Int32} (hN : am_nN (am_En D dA h b L xs)) : am_all (am_En D dA h b L xs) mv_tb mv_P tS_learnFlags kS_learnFlags := by
  unfold kS_learnFlags
  refine am_all.c (s_iconst (by decide +kernel) (by decide) rfl) ?_
  refine am_all.c (s_istore_n (kf := 2) (by decide +kernel) rfl rfl) ?_
  refine am_all.c (s_iload_n (kf := 2) (by decide +kernel) rfl rfl) ?_
  refine am_all.c (s_aload_n (kf := 0) (by decide +kernel) rfl rfl) ?_
  refine am_all.c (s_get (C := cn_S) (Tf := ft_S) (N := 9) rfl fi_S (by decide) tw_95 (by decide +kernel) rfl) ?_
  refine am_all.c (s_icmp_gt (off := 53) (by decide +kernel) (by decide) rfl) ?_
  refine am_all.c (s_aload_n (kf := 1) (by decide +kernel) rfl rfl) ?_
  refine am_all.c (s_aload_n (kf := 0) (by decide +kernel) rfl rfl) ?_
  refine am_all.c (s_iload_n (kf := 2) (by decide +kernel) rfl rfl) ?_
  refine am_all.c (s_callV (q := (cn_S, ft_S, 9)) (by decide) (ce_S_uidOf hN) rfl rfl tw_338 tw_339 tw_340 (by decide +kernel) rfl) ?_
  refine am_all.c (s_callV (q := (cn_B, ft_B, 6)) (by decide) (ce_B_positionOf hN) rfl rfl tw_326 tw_327 tw_328 (by decide +kernel) rfl) ?_
  refine am_all.c (s_istore_n (kf := 3) (by decide +kernel) rfl rfl) ?_
  refine am_all.c (s_iload_n (kf := 3) (by decide +kernel) rfl rfl) ?_
  refine am_all.c (s_iconst (by decide +kernel) (by decide) rfl) ?_
  refine am_all.c (s_icmp_eq (off := 32) (by decide +kernel) (by decide) rfl) ?_
  refine am_all.c (s_aload_n (kf := 1) (by decide +kernel) rfl rfl) ?_
  refine am_all.c (s_iload_n (kf := 3) (by decide +kernel) rfl rfl) ?_
  refine am_all.c (s_callV (q := (cn_B, ft_B, 6)) (by decide) (ce_B_flagsAt hN) rfl rfl tw_259 tw_260 tw_261 (by decide +kernel) rfl) ?_
  refine am_all.c (s_aload_n (kf := 0) (by decide +kernel) rfl rfl) ?_
  refine am_all.c (s_iload_n (kf := 2) (by decide +kernel) rfl rfl) ?_
  refine am_all.c (s_callV (q := (cn_S, ft_S, 9)) (by decide) (ce_S_knownFlagsOf hN) rfl rfl tw_342 tw_343 tw_344 (by decide +kernel) rfl) ?_
  refine am_all.c (s_icmp_eq (off := 19) (by decide +kernel) (by decide) rfl) ?_
  refine am_all.c (s_aload_n (kf := 0) (by decide +kernel) rfl rfl) ?_
  refine am_all.c (s_iload_n (kf := 2) (by decide +kernel) rfl rfl) ?_
  refine am_all.c (s_aload_n (kf := 1) (by decide +kernel) rfl rfl) ?_
  refine am_all.c (s_iload_n (kf := 3) (by decide +kernel) rfl rfl) ?_
  refine am_all.c (s_callV (q := (cn_B, ft_B, 6)) (by decide) (ce_B_flagsAt hN) rfl rfl tw_259 tw_260 tw_261 (by decide +kernel) rfl) ?_
  refine am_all.c (s_callV (q := (cn_S, ft_S, 9)) (by decide) (ce_S_know hN) rfl rfl tw_346 tw_347 tw_348 (by decide +kernel) rfl) ?_
  refine am_all.c (s_aload_n (kf := 0) (by decide +kernel) rfl rfl) ?_
  refine am_all.c (s_iconst (by decide +kernel) (by decide) rfl) ?_
  refine am_all.c (s_iload_n (kf := 2) (by decide +kernel) rfl rfl) ?_
  refine am_all.c (s_callV (q := (cn_S, ft_S, 9)) (by decide) (ce_S_tell hN) rfl rfl tw_330 tw_332 tw_9 (by decide +kernel) rfl) ?_
  refine am_all.c (s_iinc (by decide +kernel) rfl) ?_
  refine am_all.c (s_goto (off := -55) (by decide +kernel) (by decide)) ?_
  refine am_all.c (s_vret (by decide +kernel) rfl) ?_
  exact trivial
set_option maxRecDepth 20000 in
theorem ga_S_tell {D : va_G} {dA : Nat → ClassId} {h b L : Nat} {xs : Nat → Int32} (hN : am_nN (am_En D dA h b L xs)) : am_all (am_En D dA h b L xs) mv_tb mv_P tS_tell kS_tell := by
  unfold kS_tell
  refine am_all.c (s_aload_n (kf := 0) (by decide +kernel) rfl rfl) ?_
  refine am_all.c (s_get (C := cn_S) (Tf := ft_S) (N := 9) rfl fi_S (by decide) tw_96 (by decide +kernel) rfl) ?_
  refine am_all.c (s_bipush (by decide +kernel) (by decide +kernel) (by decide) rfl) ?_
  refine am_all.c (s_icmp_ge (off := 33) (by decide +kernel) (by decide) rfl) ?_
  refine am_all.c (s_aload_n (kf := 0) (by decide +kernel) rfl rfl) ?_
  refine am_all.c (s_get (C := cn_S) (Tf := ft_S) (N := 9) rfl fi_S (by decide) tw_91 (by decide +kernel) rfl) ?_
  refine am_all.c (s_aload_n (kf := 0) (by decide +kernel) rfl rfl) ?_
  refine am_all.c (s_get (C := cn_S) (Tf := ft_S) (N := 9) rfl fi_S (by decide) tw_96 (by decide +kernel) rfl) ?_
  refine am_all.c (s_iload_n (kf := 1) (by decide +kernel) rfl rfl) ?_
  refine am_all.c (s_iast rfl (by decide +kernel) rfl) ?_
  refine am_all.c (s_aload_n (kf := 0) (by decide +kernel) rfl rfl) ?_
  refine am_all.c (s_get (C := cn_S) (Tf := ft_S) (N := 9) rfl fi_S (by decide) tw_92 (by decide +kernel) rfl) ?_
  refine am_all.c (s_aload_n (kf := 0) (by decide +kernel) rfl rfl) ?_
  refine am_all.c (s_get (C := cn_S) (Tf := ft_S) (N := 9) rfl fi_S (by decide) tw_96 (by decide +kernel) rfl) ?_
  refine am_all.c (s_iload_n (kf := 2) (by decide +kernel) rfl rfl) ?_
  refine am_all.c (s_iast rfl (by decide +kernel) rfl) ?_
  refine am_all.c (s_aload_n (kf := 0) (by decide +kernel) rfl rfl) ?_
  refine am_all.c (s_dup (by decide +kernel) rfl) ?_
  refine am_all.c (s_get (C := cn_S) (Tf := ft_S) (N := 9) rfl fi_S (by decide) tw_96 (by decide +kernel) rfl) ?_
  refine am_all.c (s_iconst (by decide +kernel) (by decide) rfl) ?_
  refine am_all.c (s_iadd (by decide +kernel) rfl) ?_
  refine am_all.c (s_put (C := cn_S) (Tf := ft_S) (N := 9) (ty := .int) rfl fi_S fy_S fo_S fn_S (by decide) tw_96 (Or.inl rfl) (by decide +kernel) (Or.inl ⟨rfl, rfl⟩) (by decide +kernel) rfl) ?_
  refine am_all.c (s_vret (by decide +kernel) rfl) ?_
  exact trivial
set_option maxRecDepth 20000 in
theorem ga_C_init {D : va_G} {dA : Nat → ClassId} {h b L : Nat} {xs : Nat → Int32} (hN : am_nN (am_En D dA h b L xs)) : am_all (am_En D dA h b L xs) mv_tb mv_P tC_init kC_init := by
  unfold kC_init
  refine am_all.c (s_aload_n (kf := 0) (by decide +kernel) rfl rfl) ?_
  refine am_all.c (s_obj mv_P0 tw_150 tw_53 tw_54 (by decide +kernel) rfl) ?_
  refine am_all.c (s_aload_n (kf := 0) (by decide +kernel) rfl rfl) ?_
  refine am_all.c (s_bipush (by decide +kernel) (by decide +kernel) (by decide) rfl) ?_
  refine am_all.c (s_newa (at0 := .int) rfl rfl (Or.inl rfl) tw_81 (by decide +kernel) rfl) ?_
  refine am_all.c (s_put (C := cn_C) (Tf := ft_C) (N := 7) (ty := .array .int) rfl fi_C fy_C fo_C fn_C (by decide) tw_151 (Or.inr ⟨rfl, rfl, rfl⟩) (by decide +kernel) (Or.inr (Or.inr ⟨rfl, Or.inr ⟨_, rfl⟩⟩)) (by decide +kernel) rfl) ?_
  refine am_all.c (s_aload_n (kf := 0) (by decide +kernel) rfl rfl) ?_
  refine am_all.c (s_bipush (by decide +kernel) (by decide +kernel) (by decide) rfl) ?_
  refine am_all.c (s_newa (at0 := .int) rfl rfl (Or.inl rfl) tw_81 (by decide +kernel) rfl) ?_
  refine am_all.c (s_put (C := cn_C) (Tf := ft_C) (N := 7) (ty := .array .int) rfl fi_C fy_C fo_C fn_C (by decide) tw_152 (Or.inr ⟨rfl, rfl, rfl⟩) (by decide +kernel) (Or.inr (Or.inr ⟨rfl, Or.inr ⟨_, rfl⟩⟩)) (by decide +kernel) rfl) ?_
  refine am_all.c (s_aload_n (kf := 0) (by decide +kernel) rfl rfl) ?_
  refine am_all.c (s_bipush (by decide +kernel) (by decide +kernel) (by decide) rfl) ?_
  refine am_all.c (s_newa (at0 := .int) rfl rfl (Or.inl rfl) tw_81 (by decide +kernel) rfl) ?_
  refine am_all.c (s_put (C := cn_C) (Tf := ft_C) (N := 7) (ty := .array .int) rfl fi_C fy_C fo_C fn_C (by decide) tw_153 (Or.inr ⟨rfl, rfl, rfl⟩) (by decide +kernel) (Or.inr (Or.inr ⟨rfl, Or.inr ⟨_, rfl⟩⟩)) (by decide +kernel) rfl) ?_
  refine am_all.c (s_aload_n (kf := 0) (by decide +kernel) rfl rfl) ?_
  refine am_all.c (s_bipush (by decide +kernel) (by decide +kernel) (by decide) rfl) ?_
  refine am_all.c (s_newa (at0 := .int) rfl rfl (Or.inl rfl) tw_81 (by decide +kernel) rfl) ?_
  refine am_all.c (s_put (C := cn_C) (Tf := ft_C) (N := 7) (ty := .array .int) rfl fi_C fy_C fo_C fn_C (by decide) tw_154 (Or.inr ⟨rfl, rfl, rfl⟩) (by decide +kernel) (Or.inr (Or.inr ⟨rfl, Or.inr ⟨_, rfl⟩⟩)) (by decide +kernel) rfl) ?_
  refine am_all.c (s_aload_n (kf := 0) (by decide +kernel) rfl rfl) ?_
  refine am_all.c (s_bipush (by decide +kernel) (by decide +kernel) (by decide) rfl) ?_
  refine am_all.c (s_newa (at0 := .int) rfl rfl (Or.inl rfl) tw_81 (by decide +kernel) rfl) ?_
  refine am_all.c (s_put (C := cn_C) (Tf := ft_C) (N := 7) (ty := .array .int) rfl fi_C fy_C fo_C fn_C (by decide) tw_155 (Or.inr ⟨rfl, rfl, rfl⟩) (by decide +kernel) (Or.inr (Or.inr ⟨rfl, Or.inr ⟨_, rfl⟩⟩)) (by decide +kernel) rfl) ?_
  refine am_all.c (s_aload_n (kf := 0) (by decide +kernel) rfl rfl) ?_
  refine am_all.c (s_bipush (by decide +kernel) (by decide +kernel) (by decide) rfl) ?_
  refine am_all.c (s_newa (at0 := .boolean) rfl rfl (Or.inr rfl) tw_173 (by decide +kernel) rfl) ?_
  refine am_all.c (s_put (C := cn_C) (Tf := ft_C) (N := 7) (ty := .array .boolean) rfl fi_C fy_C fo_C fn_C (by decide) tw_156 (Or.inr ⟨rfl, rfl, rfl⟩) (by decide +kernel) (Or.inr (Or.inr ⟨rfl, Or.inr ⟨_, rfl⟩⟩)) (by decide +kernel) rfl) ?_
  refine am_all.c (s_aload_n (kf := 0) (by decide +kernel) rfl rfl) ?_
  refine am_all.c (s_iconst (by decide +kernel) (by decide) rfl) ?_
  refine am_all.c (s_put (C := cn_C) (Tf := ft_C) (N := 7) (ty := .int) rfl fi_C fy_C fo_C fn_C (by decide) tw_157 (Or.inl rfl) (by decide +kernel) (Or.inl ⟨rfl, rfl⟩) (by decide +kernel) rfl) ?_
  refine am_all.c (s_vret (by decide +kernel) rfl) ?_
  exact trivial
set_option maxRecDepth 20000 in
theorem ga_C_isOp {D : va_G} {dA : Nat → ClassId} {h b L : Nat} {xs : Nat → Int32} (hN : am_nN (am_En D dA h b L xs)) : am_all (am_En D dA h b L xs) mv_tb mv_P tC_isOp kC_isOp := by
  unfold kC_isOp
  refine am_all.c (s_iload_n (kf := 0) (by decide +kernel) rfl rfl) ?_
  refine am_all.c (s_if_lt (off := 13) (by decide +kernel) (by decide) rfl) ?_
  refine am_all.c (s_iload_n (kf := 0) (by decide +kernel) rfl rfl) ?_
  refine am_all.c (s_bipush (by decide +kernel) (by decide +kernel) (by decide) rfl) ?_
  refine am_all.c (s_icmp_gt (off := 7) (by decide +kernel) (by decide) rfl) ?_
  refine am_all.c (s_iconst (by decide +kernel) (by decide) rfl) ?_
  refine am_all.c (s_goto (off := 4) (by decide +kernel) (by decide)) ?_
  refine am_all.c (s_iconst (by decide +kernel) (by decide) rfl) ?_
  refine am_all.c (s_zret (by decide +kernel) rfl) ?_
  exact trivial
set_option maxRecDepth 20000 in
theorem ga_C_tokenCount {D : va_G} {dA : Nat → ClassId} {h b L : Nat} {xs : Nat → Int32} (hN : am_nN (am_En D dA h b L xs)) : am_all (am_En D dA h b L xs) mv_tb mv_P tC_tokenCount kC_tokenCount := by
  unfold kC_tokenCount
  refine am_all.c (s_aload_n (kf := 0) (by decide +kernel) rfl rfl) ?_
  refine am_all.c (s_get (C := cn_C) (Tf := ft_C) (N := 7) rfl fi_C (by decide) tw_157 (by decide +kernel) rfl) ?_
  refine am_all.c (s_iret (by decide +kernel) rfl) ?_
  exact trivial
set_option maxRecDepth 20000 in
theorem ga_C_isFull {D : va_G} {dA : Nat → ClassId} {h b L : Nat} {xs : Nat → Int32} (hN : am_nN (am_En D dA h b L xs)) : am_all (am_En D dA h b L xs) mv_tb mv_P tC_isFull kC_isFull := by
  unfold kC_isFull
  refine am_all.c (s_aload_n (kf := 0) (by decide +kernel) rfl rfl) ?_
  refine am_all.c (s_get (C := cn_C) (Tf := ft_C) (N := 7) rfl fi_C (by decide) tw_157 (by decide +kernel) rfl) ?_
  refine am_all.c (s_bipush (by decide +kernel) (by decide +kernel) (by decide) rfl) ?_
  refine am_all.c (s_icmp_lt (off := 7) (by decide +kernel) (by decide) rfl) ?_
  refine am_all.c (s_iconst (by decide +kernel) (by decide) rfl) ?_
  refine am_all.c (s_goto (off := 4) (by decide +kernel) (by decide)) ?_
  refine am_all.c (s_iconst (by decide +kernel) (by decide) rfl) ?_
  refine am_all.c (s_zret (by decide +kernel) rfl) ?_
  exact trivial
set_option maxRecDepth 20000 in
theorem ga_C_wipe {D : va_G} {dA : Nat → ClassId} {h b L : Nat} {xs : Nat → Int32} (hN : am_nN (am_En D dA h b L xs)) : am_all (am_En D dA h b L xs) mv_tb mv_P tC_wipe kC_wipe := by
  unfold kC_wipe
  refine am_all.c (s_aload_n (kf := 0) (by decide +kernel) rfl rfl) ?_
  refine am_all.c (s_iconst (by decide +kernel) (by decide) rfl) ?_
  refine am_all.c (s_put (C := cn_C) (Tf := ft_C) (N := 7) (ty := .int) rfl fi_C fy_C fo_C fn_C (by decide) tw_157 (Or.inl rfl) (by decide +kernel) (Or.inl ⟨rfl, rfl⟩) (by decide +kernel) rfl) ?_
  refine am_all.c (s_vret (by decide +kernel) rfl) ?_
  exact trivial
set_option maxRecDepth 20000 in
theorem ga_C_write {D : va_G} {dA : Nat → ClassId} {h b L : Nat} {xs : Nat → Int32} (hN : am_nN (am_En D dA h b L xs)) : am_all (am_En D dA h b L xs) mv_tb mv_P tC_write kC_write := by
  unfold kC_write
  refine am_all.c (s_aload_n (kf := 0) (by decide +kernel) rfl rfl) ?_
  refine am_all.c (s_get (C := cn_C) (Tf := ft_C) (N := 7) rfl fi_C (by decide) tw_151 (by decide +kernel) rfl) ?_
  refine am_all.c (s_aload_n (kf := 0) (by decide +kernel) rfl rfl) ?_
  refine am_all.c (s_get (C := cn_C) (Tf := ft_C) (N := 7) rfl fi_C (by decide) tw_157 (by decide +kernel) rfl) ?_
  refine am_all.c (s_iload_n (kf := 1) (by decide +kernel) rfl rfl) ?_
  refine am_all.c (s_iast rfl (by decide +kernel) rfl) ?_
  refine am_all.c (s_aload_n (kf := 0) (by decide +kernel) rfl rfl) ?_
  refine am_all.c (s_get (C := cn_C) (Tf := ft_C) (N := 7) rfl fi_C (by decide) tw_152 (by decide +kernel) rfl) ?_
  refine am_all.c (s_aload_n (kf := 0) (by decide +kernel) rfl rfl) ?_
  refine am_all.c (s_get (C := cn_C) (Tf := ft_C) (N := 7) rfl fi_C (by decide) tw_157 (by decide +kernel) rfl) ?_
  refine am_all.c (s_iload_n (kf := 2) (by decide +kernel) rfl rfl) ?_
  refine am_all.c (s_iast rfl (by decide +kernel) rfl) ?_
  refine am_all.c (s_aload_n (kf := 0) (by decide +kernel) rfl rfl) ?_
  refine am_all.c (s_get (C := cn_C) (Tf := ft_C) (N := 7) rfl fi_C (by decide) tw_153 (by decide +kernel) rfl) ?_
  refine am_all.c (s_aload_n (kf := 0) (by decide +kernel) rfl rfl) ?_
  refine am_all.c (s_get (C := cn_C) (Tf := ft_C) (N := 7) rfl fi_C (by decide) tw_157 (by decide +kernel) rfl) ?_
  refine am_all.c (s_iload_n (kf := 3) (by decide +kernel) rfl rfl) ?_
  refine am_all.c (s_iast rfl (by decide +kernel) rfl) ?_
  refine am_all.c (s_aload_n (kf := 0) (by decide +kernel) rfl rfl) ?_
  refine am_all.c (s_dup (by decide +kernel) rfl) ?_
  refine am_all.c (s_get (C := cn_C) (Tf := ft_C) (N := 7) rfl fi_C (by decide) tw_157 (by decide +kernel) rfl) ?_
  refine am_all.c (s_iconst (by decide +kernel) (by decide) rfl) ?_
  refine am_all.c (s_iadd (by decide +kernel) rfl) ?_
  refine am_all.c (s_put (C := cn_C) (Tf := ft_C) (N := 7) (ty := .int) rfl fi_C fy_C fo_C fn_C (by decide) tw_157 (Or.inl rfl) (by decide +kernel) (Or.inl ⟨rfl, rfl⟩) (by decide +kernel) rfl) ?_
  refine am_all.c (s_vret (by decide +kernel) rfl) ?_
  exact trivial
set_option maxRecDepth 20000 in
theorem ga_C_isGood {D : va_G} {dA : Nat → ClassId} {h b L : Nat} {xs : Nat → Int32} (hN : am_nN (am_En D dA h b L xs)) : am_all (am_En D dA h b L xs) mv_tb mv_P tC_isGood kC_isGood := by
  unfold kC_isGood
  refine am_all.c (s_aload_n (kf := 0) (by decide +kernel) rfl rfl) ?_
  refine am_all.c (s_get (C := cn_C) (Tf := ft_C) (N := 7) rfl fi_C (by decide) tw_157 (by decide +kernel) rfl) ?_
  refine am_all.c (s_iconst (by decide +kernel) (by decide) rfl) ?_
  refine am_all.c (s_isub (by decide +kernel) rfl) ?_
  refine am_all.c (s_istore_n (kf := 1) (by decide +kernel) rfl rfl) ?_
  refine am_all.c (s_iload_n (kf := 1) (by decide +kernel) rfl rfl) ?_
  refine am_all.c (s_if_lt (off := 14) (by decide +kernel) (by decide) rfl) ?_
  refine am_all.c (s_aload_n (kf := 0) (by decide +kernel) rfl rfl) ?_
  refine am_all.c (s_iload_n (kf := 1) (by decide +kernel) rfl rfl) ?_
  refine am_all.c (s_callV (q := (cn_C, ft_C, 7)) (by decide) (ce_C_measure hN) rfl rfl tw_415 tw_417 tw_12 (by decide +kernel) rfl) ?_
  refine am_all.c (s_iinc (by decide +kernel) rfl) ?_
  refine am_all.c (s_goto (off := -12) (by decide +kernel) (by decide)) ?_
  refine am_all.c (s_aload_n (kf := 0) (by decide +kernel) rfl rfl) ?_
  refine am_all.c (s_get (C := cn_C) (Tf := ft_C) (N := 7) rfl fi_C (by decide) tw_157 (by decide +kernel) rfl) ?_
  refine am_all.c (s_if_le (off := 30) (by decide +kernel) (by decide) rfl) ?_
  refine am_all.c (s_aload_n (kf := 0) (by decide +kernel) rfl rfl) ?_
  refine am_all.c (s_get (C := cn_C) (Tf := ft_C) (N := 7) rfl fi_C (by decide) tw_154 (by decide +kernel) rfl) ?_
  refine am_all.c (s_iconst (by decide +kernel) (by decide) rfl) ?_
  refine am_all.c (s_iald rfl (by decide +kernel) rfl) ?_
  refine am_all.c (s_aload_n (kf := 0) (by decide +kernel) rfl rfl) ?_
  refine am_all.c (s_get (C := cn_C) (Tf := ft_C) (N := 7) rfl fi_C (by decide) tw_157 (by decide +kernel) rfl) ?_
  refine am_all.c (s_icmp_ne (off := 17) (by decide +kernel) (by decide) rfl) ?_
  refine am_all.c (s_aload_n (kf := 0) (by decide +kernel) rfl rfl) ?_
  refine am_all.c (s_get (C := cn_C) (Tf := ft_C) (N := 7) rfl fi_C (by decide) tw_155 (by decide +kernel) rfl) ?_
  refine am_all.c (s_iconst (by decide +kernel) (by decide) rfl) ?_
  refine am_all.c (s_iald rfl (by decide +kernel) rfl) ?_
  refine am_all.c (s_iconst (by decide +kernel) (by decide) rfl) ?_
  refine am_all.c (s_icmp_gt (off := 7) (by decide +kernel) (by decide) rfl) ?_
  refine am_all.c (s_iconst (by decide +kernel) (by decide) rfl) ?_
  refine am_all.c (s_goto (off := 4) (by decide +kernel) (by decide)) ?_
  refine am_all.c (s_iconst (by decide +kernel) (by decide) rfl) ?_
  refine am_all.c (s_zret (by decide +kernel) rfl) ?_
  exact trivial
set_option maxRecDepth 20000 in
theorem ga_C_isFulfilledBy {D : va_G} {dA : Nat → ClassId} {h b L : Nat} {xs : Nat → Int32} (hN : am_nN (am_En D dA h b L xs)) : am_all (am_En D dA h b L xs) mv_tb mv_P tC_isFulfilledBy kC_isFulfilledBy := by
  unfold kC_isFulfilledBy
  refine am_all.c (s_aload_n (kf := 0) (by decide +kernel) rfl rfl) ?_
  refine am_all.c (s_get (C := cn_C) (Tf := ft_C) (N := 7) rfl fi_C (by decide) tw_157 (by decide +kernel) rfl) ?_
  refine am_all.c (s_iconst (by decide +kernel) (by decide) rfl) ?_
  refine am_all.c (s_isub (by decide +kernel) rfl) ?_
  refine am_all.c (s_istore (by decide +kernel) rfl) ?_
  refine am_all.c (s_iload (by decide +kernel) rfl) ?_
  refine am_all.c (s_if_lt (off := 46) (by decide +kernel) (by decide) rfl) ?_
  refine am_all.c (s_aload_n (kf := 0) (by decide +kernel) rfl rfl) ?_
  refine am_all.c (s_get (C := cn_C) (Tf := ft_C) (N := 7) rfl fi_C (by decide) tw_156 (by decide +kernel) rfl) ?_
  refine am_all.c (s_iload (by decide +kernel) rfl) ?_
  refine am_all.c (s_aload_n (kf := 0) (by decide +kernel) rfl rfl) ?_
  refine am_all.c (s_get (C := cn_C) (Tf := ft_C) (N := 7) rfl fi_C (by decide) tw_151 (by decide +kernel) rfl) ?_
  refine am_all.c (s_iload (by decide +kernel) rfl) ?_
  refine am_all.c (s_iald rfl (by decide +kernel) rfl) ?_
  refine am_all.c (s_bipush (by decide +kernel) (by decide +kernel) (by decide) rfl) ?_
  refine am_all.c (s_icmp_ge (off := 15) (by decide +kernel) (by decide) rfl) ?_
  refine am_all.c (s_aload_n (kf := 0) (by decide +kernel) rfl rfl) ?_
  refine am_all.c (s_iload (by decide +kernel) rfl) ?_
  refine am_all.c (s_aload_n (kf := 1) (by decide +kernel) rfl rfl) ?_
  refine am_all.c (s_iload_n (kf := 2) (by decide +kernel) rfl rfl) ?_
  refine am_all.c (s_iload_n (kf := 3) (by decide +kernel) rfl rfl) ?_
  refine am_all.c (s_callV (q := (cn_C, ft_C, 7)) (by decide) (ce_C_leafHolds hN) rfl rfl tw_442 tw_444 tw_16 (by decide +kernel) rfl) ?_
  refine am_all.c (s_goto (off := 9) (by decide +kernel) (by decide)) ?_
  refine am_all.c (s_aload_n (kf := 0) (by decide +kernel) rfl rfl) ?_
  refine am_all.c (s_iload (by decide +kernel) rfl) ?_
  refine am_all.c (s_callV (q := (cn_C, ft_C, 7)) (by decide) (ce_C_joinHolds hN) rfl rfl tw_449 tw_451 tw_17 (by decide +kernel) rfl) ?_
  refine am_all.c (s_zast rfl (by decide +kernel) rfl) ?_
  refine am_all.c (s_iinc (by decide +kernel) rfl) ?_
  refine am_all.c (s_goto (off := -45) (by decide +kernel) (by decide)) ?_
  refine am_all.c (s_aload_n (kf := 0) (by decide +kernel) rfl rfl) ?_
  refine am_all.c (s_get (C := cn_C) (Tf := ft_C) (N := 7) rfl fi_C (by decide) tw_157 (by decide +kernel) rfl) ?_
  refine am_all.c (s_if_le (off := 16) (by decide +kernel) (by decide) rfl) ?_
  refine am_all.c (s_aload_n (kf := 0) (by decide +kernel) rfl rfl) ?_
  refine am_all.c (s_get (C := cn_C) (Tf := ft_C) (N := 7) rfl fi_C (by decide) tw_156 (by decide +kernel) rfl) ?_
  refine am_all.c (s_iconst (by decide +kernel) (by decide) rfl) ?_
  refine am_all.c (s_zald rfl (by decide +kernel) rfl) ?_
  refine am_all.c (s_if_eq (off := 7) (by decide +kernel) (by decide) rfl) ?_
  refine am_all.c (s_iconst (by decide +kernel) (by decide) rfl) ?_
  refine am_all.c (s_goto (off := 4) (by decide +kernel) (by decide)) ?_
  refine am_all.c (s_iconst (by decide +kernel) (by decide) rfl) ?_
  refine am_all.c (s_zret (by decide +kernel) rfl) ?_
  exact trivial
set_option maxRecDepth 20000 in
theorem ga_C_measure {D : va_G} {dA : Nat → ClassId} {h b L : Nat} {xs : Nat → Int32} (hN : am_nN (am_En D dA h b L xs)) : am_all (am_En D dA h b L xs) mv_tb mv_P tC_measure kC_measure := by
  unfold kC_measure
  refine am_all.c (s_iload_n (kf := 1) (by decide +kernel) rfl rfl) ?_
  refine am_all.c (s_iconst (by decide +kernel) (by decide) rfl) ?_
  refine am_all.c (s_iadd (by decide +kernel) rfl) ?_
  refine am_all.c (s_istore_n (kf := 2) (by decide +kernel) rfl rfl) ?_
  refine am_all.c (s_aload_n (kf := 0) (by decide +kernel) rfl rfl) ?_
  refine am_all.c (s_iload_n (kf := 2) (by decide +kernel) rfl rfl) ?_
  refine am_all.c (s_callV (q := (cn_C, ft_C, 7)) (by decide) (ce_C_endFrom hN) rfl rfl tw_419 tw_421 tw_13 (by decide +kernel) rfl) ?_
  refine am_all.c (s_istore_n (kf := 3) (by decide +kernel) rfl rfl) ?_
  refine am_all.c (s_aload_n (kf := 0) (by decide +kernel) rfl rfl) ?_
  refine am_all.c (s_get (C := cn_C) (Tf := ft_C) (N := 7) rfl fi_C (by decide) tw_151 (by decide +kernel) rfl) ?_
  refine am_all.c (s_iload_n (kf := 1) (by decide +kernel) rfl rfl) ?_
  refine am_all.c (s_iald rfl (by decide +kernel) rfl) ?_
  refine am_all.c (s_bipush (by decide +kernel) (by decide +kernel) (by decide) rfl) ?_
  refine am_all.c (s_icmp_ge (off := 20) (by decide +kernel) (by decide) rfl) ?_
  refine am_all.c (s_aload_n (kf := 0) (by decide +kernel) rfl rfl) ?_
  refine am_all.c (s_get (C := cn_C) (Tf := ft_C) (N := 7) rfl fi_C (by decide) tw_154 (by decide +kernel) rfl) ?_
  refine am_all.c (s_iload_n (kf := 1) (by decide +kernel) rfl rfl) ?_
  refine am_all.c (s_iload_n (kf := 2) (by decide +kernel) rfl rfl) ?_
  refine am_all.c (s_iast rfl (by decide +kernel) rfl) ?_
  refine am_all.c (s_aload_n (kf := 0) (by decide +kernel) rfl rfl) ?_
  refine am_all.c (s_get (C := cn_C) (Tf := ft_C) (N := 7) rfl fi_C (by decide) tw_155 (by decide +kernel) rfl) ?_
  refine am_all.c (s_iload_n (kf := 1) (by decide +kernel) rfl rfl) ?_
  refine am_all.c (s_iconst (by decide +kernel) (by decide) rfl) ?_
  refine am_all.c (s_iast rfl (by decide +kernel) rfl) ?_
  refine am_all.c (s_goto (off := 69) (by decide +kernel) (by decide)) ?_
  refine am_all.c (s_aload_n (kf := 0) (by decide +kernel) rfl rfl) ?_
  refine am_all.c (s_get (C := cn_C) (Tf := ft_C) (N := 7) rfl fi_C (by decide) tw_151 (by decide +kernel) rfl) ?_
  refine am_all.c (s_iload_n (kf := 1) (by decide +kernel) rfl rfl) ?_
  refine am_all.c (s_iald rfl (by decide +kernel) rfl) ?_
  refine am_all.c (s_bipush (by decide +kernel) (by decide +kernel) (by decide) rfl) ?_
  refine am_all.c (s_icmp_ne (off := 26) (by decide +kernel) (by decide) rfl) ?_
  refine am_all.c (s_aload_n (kf := 0) (by decide +kernel) rfl rfl) ?_
  refine am_all.c (s_get (C := cn_C) (Tf := ft_C) (N := 7) rfl fi_C (by decide) tw_154 (by decide +kernel) rfl) ?_
  refine am_all.c (s_iload_n (kf := 1) (by decide +kernel) rfl rfl) ?_
  refine am_all.c (s_iload_n (kf := 3) (by decide +kernel) rfl rfl) ?_
  refine am_all.c (s_iast rfl (by decide +kernel) rfl) ?_
  refine am_all.c (s_aload_n (kf := 0) (by decide +kernel) rfl rfl) ?_
  refine am_all.c (s_get (C := cn_C) (Tf := ft_C) (N := 7) rfl fi_C (by decide) tw_155 (by decide +kernel) rfl) ?_
  refine am_all.c (s_iload_n (kf := 1) (by decide +kernel) rfl rfl) ?_
  refine am_all.c (s_iconst (by decide +kernel) (by decide) rfl) ?_
  refine am_all.c (s_aload_n (kf := 0) (by decide +kernel) rfl rfl) ?_
  refine am_all.c (s_iload_n (kf := 2) (by decide +kernel) rfl rfl) ?_
  refine am_all.c (s_callV (q := (cn_C, ft_C, 7)) (by decide) (ce_C_depthFrom hN) rfl rfl tw_423 tw_425 tw_14 (by decide +kernel) rfl) ?_
  refine am_all.c (s_iadd (by decide +kernel) rfl) ?_
  refine am_all.c (s_iast rfl (by decide +kernel) rfl) ?_
  refine am_all.c (s_goto (off := 35) (by decide +kernel) (by decide)) ?_
  refine am_all.c (s_aload_n (kf := 0) (by decide +kernel) rfl rfl) ?_
  refine am_all.c (s_get (C := cn_C) (Tf := ft_C) (N := 7) rfl fi_C (by decide) tw_154 (by decide +kernel) rfl) ?_
  refine am_all.c (s_iload_n (kf := 1) (by decide +kernel) rfl rfl) ?_
  refine am_all.c (s_aload_n (kf := 0) (by decide +kernel) rfl rfl) ?_
  refine am_all.c (s_iload_n (kf := 3) (by decide +kernel) rfl rfl) ?_
  refine am_all.c (s_callV (q := (cn_C, ft_C, 7)) (by decide) (ce_C_endFrom hN) rfl rfl tw_419 tw_421 tw_13 (by decide +kernel) rfl) ?_
  refine am_all.c (s_iast rfl (by decide +kernel) rfl) ?_
  refine am_all.c (s_aload_n (kf := 0) (by decide +kernel) rfl rfl) ?_
  refine am_all.c (s_get (C := cn_C) (Tf := ft_C) (N := 7) rfl fi_C (by decide) tw_155 (by decide +kernel) rfl) ?_
  refine am_all.c (s_iload_n (kf := 1) (by decide +kernel) rfl rfl) ?_
  refine am_all.c (s_iconst (by decide +kernel) (by decide) rfl) ?_
  refine am_all.c (s_aload_n (kf := 0) (by decide +kernel) rfl rfl) ?_
  refine am_all.c (s_iload_n (kf := 2) (by decide +kernel) rfl rfl) ?_
  refine am_all.c (s_callV (q := (cn_C, ft_C, 7)) (by decide) (ce_C_depthFrom hN) rfl rfl tw_423 tw_425 tw_14 (by decide +kernel) rfl) ?_
  refine am_all.c (s_aload_n (kf := 0) (by decide +kernel) rfl rfl) ?_
  refine am_all.c (s_iload_n (kf := 3) (by decide +kernel) rfl rfl) ?_
  refine am_all.c (s_callV (q := (cn_C, ft_C, 7)) (by decide) (ce_C_depthFrom hN) rfl rfl tw_423 tw_425 tw_14 (by decide +kernel) rfl) ?_
  refine am_all.c (s_max mv_P0 tw_427 tw_428 tw_46 tw_429 (by decide +kernel) rfl) ?_
  refine am_all.c (s_iadd (by decide +kernel) rfl) ?_
  refine am_all.c (s_iast rfl (by decide +kernel) rfl) ?_
  refine am_all.c (s_vret (by decide +kernel) rfl) ?_
  exact trivial
set_option maxRecDepth 20000 in
theorem ga_C_leafHolds {D : va_G} {dA : Nat → ClassId} {h b L : Nat} {xs : Nat → Int32} (hN : am_nN (am_En D dA h b L xs)) : am_all (am_En D dA h b L xs) mv_tb mv_P tC_leafHolds kC_leafHolds := by
  unfold kC_leafHolds
  refine am_all.c (s_aload_n (kf := 0) (by decide +kernel) rfl rfl) ?_
  refine am_all.c (s_get (C := cn_C) (Tf := ft_C) (N := 7) rfl fi_C (by decide) tw_151 (by decide +kernel) rfl) ?_
  refine am_all.c (s_iload_n (kf := 1) (by decide +kernel) rfl rfl) ?_
  refine am_all.c (s_iald rfl (by decide +kernel) rfl) ?_
  refine am_all.c (s_tsw (dflt := 157) (lo := 1) (hi := 5) (offs := #[34, 55, 75, 95, 129]) (len := 34) (by decide +kernel) (by decide) (by decide) (am_tsc (by decide))) ?_
  refine am_all.c (s_aload_n (kf := 2) (by decide +kernel) rfl rfl) ?_
  refine am_all.c (s_iload_n (kf := 3) (by decide +kernel) rfl rfl) ?_
  refine am_all.c (s_callV (q := (cn_B, ft_B, 6)) (by decide) (ce_B_flagsAt hN) rfl rfl tw_446 tw_260 tw_261 (by decide +kernel) rfl) ?_
  refine am_all.c (s_aload_n (kf := 0) (by decide +kernel) rfl rfl) ?_
  refine am_all.c (s_get (C := cn_C) (Tf := ft_C) (N := 7) rfl fi_C (by decide) tw_152 (by decide +kernel) rfl) ?_
  refine am_all.c (s_iload_n (kf := 1) (by decide +kernel) rfl rfl) ?_
  refine am_all.c (s_iald rfl (by decide +kernel) rfl) ?_
  refine am_all.c (s_iand (by decide +kernel) rfl) ?_
  refine am_all.c (s_if_eq (off := 7) (by decide +kernel) (by decide) rfl) ?_
  refine am_all.c (s_iconst (by decide +kernel) (by decide) rfl) ?_
  refine am_all.c (s_goto (off := 4) (by decide +kernel) (by decide)) ?_
  refine am_all.c (s_iconst (by decide +kernel) (by decide) rfl) ?_
  refine am_all.c (s_zret (by decide +kernel) rfl) ?_
  refine am_all.c (s_aload_n (kf := 2) (by decide +kernel) rfl rfl) ?_
  refine am_all.c (s_iload_n (kf := 3) (by decide +kernel) rfl rfl) ?_
  refine am_all.c (s_callV (q := (cn_B, ft_B, 6)) (by decide) (ce_B_sizeAt hN) rfl rfl tw_447 tw_291 tw_292 (by decide +kernel) rfl) ?_
  refine am_all.c (s_aload_n (kf := 0) (by decide +kernel) rfl rfl) ?_
  refine am_all.c (s_get (C := cn_C) (Tf := ft_C) (N := 7) rfl fi_C (by decide) tw_152 (by decide +kernel) rfl) ?_
  refine am_all.c (s_iload_n (kf := 1) (by decide +kernel) rfl rfl) ?_
  refine am_all.c (s_iald rfl (by decide +kernel) rfl) ?_
  refine am_all.c (s_icmp_le (off := 7) (by decide +kernel) (by decide) rfl) ?_
  refine am_all.c (s_iconst (by decide +kernel) (by decide) rfl) ?_
  refine am_all.c (s_goto (off := 4) (by decide +kernel) (by decide)) ?_
  refine am_all.c (s_iconst (by decide +kernel) (by decide) rfl) ?_
  refine am_all.c (s_zret (by decide +kernel) rfl) ?_
  refine am_all.c (s_aload_n (kf := 2) (by decide +kernel) rfl rfl) ?_
  refine am_all.c (s_iload_n (kf := 3) (by decide +kernel) rfl rfl) ?_
  refine am_all.c (s_callV (q := (cn_B, ft_B, 6)) (by decide) (ce_B_sizeAt hN) rfl rfl tw_447 tw_291 tw_292 (by decide +kernel) rfl) ?_
  refine am_all.c (s_aload_n (kf := 0) (by decide +kernel) rfl rfl) ?_
  refine am_all.c (s_get (C := cn_C) (Tf := ft_C) (N := 7) rfl fi_C (by decide) tw_152 (by decide +kernel) rfl) ?_
  refine am_all.c (s_iload_n (kf := 1) (by decide +kernel) rfl rfl) ?_
  refine am_all.c (s_iald rfl (by decide +kernel) rfl) ?_
  refine am_all.c (s_icmp_ge (off := 7) (by decide +kernel) (by decide) rfl) ?_
  refine am_all.c (s_iconst (by decide +kernel) (by decide) rfl) ?_
  refine am_all.c (s_goto (off := 4) (by decide +kernel) (by decide)) ?_
  refine am_all.c (s_iconst (by decide +kernel) (by decide) rfl) ?_
  refine am_all.c (s_zret (by decide +kernel) rfl) ?_
  refine am_all.c (s_aload_n (kf := 0) (by decide +kernel) rfl rfl) ?_
  refine am_all.c (s_get (C := cn_C) (Tf := ft_C) (N := 7) rfl fi_C (by decide) tw_152 (by decide +kernel) rfl) ?_
  refine am_all.c (s_iload_n (kf := 1) (by decide +kernel) rfl rfl) ?_
  refine am_all.c (s_iald rfl (by decide +kernel) rfl) ?_
  refine am_all.c (s_aload_n (kf := 2) (by decide +kernel) rfl rfl) ?_
  refine am_all.c (s_iload_n (kf := 3) (by decide +kernel) rfl rfl) ?_
  refine am_all.c (s_callV (q := (cn_B, ft_B, 6)) (by decide) (ce_B_uidAt hN) rfl rfl tw_448 tw_256 tw_257 (by decide +kernel) rfl) ?_
  refine am_all.c (s_icmp_gt (off := 21) (by decide +kernel) (by decide) rfl) ?_
  refine am_all.c (s_aload_n (kf := 2) (by decide +kernel) rfl rfl) ?_
  refine am_all.c (s_iload_n (kf := 3) (by decide +kernel) rfl rfl) ?_
  refine am_all.c (s_callV (q := (cn_B, ft_B, 6)) (by decide) (ce_B_uidAt hN) rfl rfl tw_448 tw_256 tw_257 (by decide +kernel) rfl) ?_
  refine am_all.c (s_aload_n (kf := 0) (by decide +kernel) rfl rfl) ?_
  refine am_all.c (s_get (C := cn_C) (Tf := ft_C) (N := 7) rfl fi_C (by decide) tw_153 (by decide +kernel) rfl) ?_
  refine am_all.c (s_iload_n (kf := 1) (by decide +kernel) rfl rfl) ?_
  refine am_all.c (s_iald rfl (by decide +kernel) rfl) ?_
  refine am_all.c (s_icmp_gt (off := 7) (by decide +kernel) (by decide) rfl) ?_
  refine am_all.c (s_iconst (by decide +kernel) (by decide) rfl) ?_
  refine am_all.c (s_goto (off := 4) (by decide +kernel) (by decide)) ?_
  refine am_all.c (s_iconst (by decide +kernel) (by decide) rfl) ?_
  refine am_all.c (s_zret (by decide +kernel) rfl) ?_
  refine am_all.c (s_aload_n (kf := 0) (by decide +kernel) rfl rfl) ?_
  refine am_all.c (s_get (C := cn_C) (Tf := ft_C) (N := 7) rfl fi_C (by decide) tw_152 (by decide +kernel) rfl) ?_
  refine am_all.c (s_iload_n (kf := 1) (by decide +kernel) rfl rfl) ?_
  refine am_all.c (s_iald rfl (by decide +kernel) rfl) ?_
  refine am_all.c (s_iload (by decide +kernel) rfl) ?_
  refine am_all.c (s_icmp_gt (off := 18) (by decide +kernel) (by decide) rfl) ?_
  refine am_all.c (s_iload (by decide +kernel) rfl) ?_
  refine am_all.c (s_aload_n (kf := 0) (by decide +kernel) rfl rfl) ?_
  refine am_all.c (s_get (C := cn_C) (Tf := ft_C) (N := 7) rfl fi_C (by decide) tw_153 (by decide +kernel) rfl) ?_
  refine am_all.c (s_iload_n (kf := 1) (by decide +kernel) rfl rfl) ?_
  refine am_all.c (s_iald rfl (by decide +kernel) rfl) ?_
  refine am_all.c (s_icmp_gt (off := 7) (by decide +kernel) (by decide) rfl) ?_
  refine am_all.c (s_iconst (by decide +kernel) (by decide) rfl) ?_
  refine am_all.c (s_goto (off := 4) (by decide +kernel) (by decide)) ?_
  refine am_all.c (s_iconst (by decide +kernel) (by decide) rfl) ?_
  refine am_all.c (s_zret (by decide +kernel) rfl) ?_
  refine am_all.c (s_iconst (by decide +kernel) (by decide) rfl) ?_
  refine am_all.c (s_zret (by decide +kernel) rfl) ?_
  exact trivial
set_option maxRecDepth 20000 in
theorem ga_C_joinHolds {D : va_G} {dA : Nat → ClassId} {h b L : Nat} {xs : Nat → Int32} (hN : am_nN (am_En D dA h b L xs)) : am_all (am_En D dA h b L xs) mv_tb mv_P tC_joinHolds kC_joinHolds := by
  unfold kC_joinHolds
  refine am_all.c (s_aload_n (kf := 0) (by decide +kernel) rfl rfl) ?_
  refine am_all.c (s_iload_n (kf := 1) (by decide +kernel) rfl rfl) ?_
  refine am_all.c (s_iconst (by decide +kernel) (by decide) rfl) ?_
  refine am_all.c (s_iadd (by decide +kernel) rfl) ?_
  refine am_all.c (s_callV (q := (cn_C, ft_C, 7)) (by decide) (ce_C_holdsFrom hN) rfl rfl tw_453 tw_455 tw_18 (by decide +kernel) rfl) ?_
  refine am_all.c (s_istore_n (kf := 2) (by decide +kernel) rfl rfl) ?_
  refine am_all.c (s_aload_n (kf := 0) (by decide +kernel) rfl rfl) ?_
  refine am_all.c (s_aload_n (kf := 0) (by decide +kernel) rfl rfl) ?_
  refine am_all.c (s_iload_n (kf := 1) (by decide +kernel) rfl rfl) ?_
  refine am_all.c (s_iconst (by decide +kernel) (by decide) rfl) ?_
  refine am_all.c (s_iadd (by decide +kernel) rfl) ?_
  refine am_all.c (s_callV (q := (cn_C, ft_C, 7)) (by decide) (ce_C_endFrom hN) rfl rfl tw_419 tw_421 tw_13 (by decide +kernel) rfl) ?_
  refine am_all.c (s_callV (q := (cn_C, ft_C, 7)) (by decide) (ce_C_holdsFrom hN) rfl rfl tw_453 tw_455 tw_18 (by decide +kernel) rfl) ?_
  refine am_all.c (s_istore_n (kf := 3) (by decide +kernel) rfl rfl) ?_
  refine am_all.c (s_aload_n (kf := 0) (by decide +kernel) rfl rfl) ?_
  refine am_all.c (s_get (C := cn_C) (Tf := ft_C) (N := 7) rfl fi_C (by decide) tw_151 (by decide +kernel) rfl) ?_
  refine am_all.c (s_iload_n (kf := 1) (by decide +kernel) rfl rfl) ?_
  refine am_all.c (s_iald rfl (by decide +kernel) rfl) ?_
  refine am_all.c (s_lsw (dflt := 54) (ps := #[(7, 26), (8, 40)]) (len := 26) (by decide +kernel) (by decide) (by decide) (by decide)) ?_
  refine am_all.c (s_iload_n (kf := 2) (by decide +kernel) rfl rfl) ?_
  refine am_all.c (s_if_eq (off := 11) (by decide +kernel) (by decide) rfl) ?_
  refine am_all.c (s_iload_n (kf := 3) (by decide +kernel) rfl rfl) ?_
  refine am_all.c (s_if_eq (off := 7) (by decide +kernel) (by decide) rfl) ?_
  refine am_all.c (s_iconst (by decide +kernel) (by decide) rfl) ?_
  refine am_all.c (s_goto (off := 4) (by decide +kernel) (by decide)) ?_
  refine am_all.c (s_iconst (by decide +kernel) (by decide) rfl) ?_
  refine am_all.c (s_zret (by decide +kernel) rfl) ?_
  refine am_all.c (s_iload_n (kf := 2) (by decide +kernel) rfl rfl) ?_
  refine am_all.c (s_if_ne (off := 7) (by decide +kernel) (by decide) rfl) ?_
  refine am_all.c (s_iload_n (kf := 3) (by decide +kernel) rfl rfl) ?_
  refine am_all.c (s_if_eq (off := 7) (by decide +kernel) (by decide) rfl) ?_
  refine am_all.c (s_iconst (by decide +kernel) (by decide) rfl) ?_
  refine am_all.c (s_goto (off := 4) (by decide +kernel) (by decide)) ?_
  refine am_all.c (s_iconst (by decide +kernel) (by decide) rfl) ?_
  refine am_all.c (s_zret (by decide +kernel) rfl) ?_
  refine am_all.c (s_iload_n (kf := 2) (by decide +kernel) rfl rfl) ?_
  refine am_all.c (s_if_ne (off := 7) (by decide +kernel) (by decide) rfl) ?_
  refine am_all.c (s_iconst (by decide +kernel) (by decide) rfl) ?_
  refine am_all.c (s_goto (off := 4) (by decide +kernel) (by decide)) ?_
  refine am_all.c (s_iconst (by decide +kernel) (by decide) rfl) ?_
  refine am_all.c (s_zret (by decide +kernel) rfl) ?_
  exact trivial
set_option maxRecDepth 20000 in
theorem ga_C_endFrom {D : va_G} {dA : Nat → ClassId} {h b L : Nat} {xs : Nat → Int32} (hN : am_nN (am_En D dA h b L xs)) : am_all (am_En D dA h b L xs) mv_tb mv_P tC_endFrom kC_endFrom := by
  unfold kC_endFrom
  refine am_all.c (s_iload_n (kf := 1) (by decide +kernel) rfl rfl) ?_
  refine am_all.c (s_aload_n (kf := 0) (by decide +kernel) rfl rfl) ?_
  refine am_all.c (s_get (C := cn_C) (Tf := ft_C) (N := 7) rfl fi_C (by decide) tw_157 (by decide +kernel) rfl) ?_
  refine am_all.c (s_icmp_ge (off := 12) (by decide +kernel) (by decide) rfl) ?_
  refine am_all.c (s_aload_n (kf := 0) (by decide +kernel) rfl rfl) ?_
  refine am_all.c (s_get (C := cn_C) (Tf := ft_C) (N := 7) rfl fi_C (by decide) tw_154 (by decide +kernel) rfl) ?_
  refine am_all.c (s_iload_n (kf := 1) (by decide +kernel) rfl rfl) ?_
  refine am_all.c (s_iald rfl (by decide +kernel) rfl) ?_
  refine am_all.c (s_goto (off := 5) (by decide +kernel) (by decide)) ?_
  refine am_all.c (s_bipush (by decide +kernel) (by decide +kernel) (by decide) rfl) ?_
  refine am_all.c (s_iret (by decide +kernel) rfl) ?_
  exact trivial
set_option maxRecDepth 20000 in
theorem ga_C_depthFrom {D : va_G} {dA : Nat → ClassId} {h b L : Nat} {xs : Nat → Int32} (hN : am_nN (am_En D dA h b L xs)) : am_all (am_En D dA h b L xs) mv_tb mv_P tC_depthFrom kC_depthFrom := by
  unfold kC_depthFrom
  refine am_all.c (s_iload_n (kf := 1) (by decide +kernel) rfl rfl) ?_
  refine am_all.c (s_aload_n (kf := 0) (by decide +kernel) rfl rfl) ?_
  refine am_all.c (s_get (C := cn_C) (Tf := ft_C) (N := 7) rfl fi_C (by decide) tw_157 (by decide +kernel) rfl) ?_
  refine am_all.c (s_icmp_ge (off := 12) (by decide +kernel) (by decide) rfl) ?_
  refine am_all.c (s_aload_n (kf := 0) (by decide +kernel) rfl rfl) ?_
  refine am_all.c (s_get (C := cn_C) (Tf := ft_C) (N := 7) rfl fi_C (by decide) tw_155 (by decide +kernel) rfl) ?_
  refine am_all.c (s_iload_n (kf := 1) (by decide +kernel) rfl rfl) ?_
  refine am_all.c (s_iald rfl (by decide +kernel) rfl) ?_
  refine am_all.c (s_goto (off := 4) (by decide +kernel) (by decide)) ?_
  refine am_all.c (s_iconst (by decide +kernel) (by decide) rfl) ?_
  refine am_all.c (s_iret (by decide +kernel) rfl) ?_
  exact trivial
set_option maxRecDepth 20000 in
theorem ga_C_holdsFrom {D : va_G} {dA : Nat → ClassId} {h b L : Nat} {xs : Nat → Int32} (hN : am_nN (am_En D dA h b L xs)) : am_all (am_En D dA h b L xs) mv_tb mv_P tC_holdsFrom kC_holdsFrom := by
  unfold kC_holdsFrom
  refine am_all.c (s_iload_n (kf := 1) (by decide +kernel) rfl rfl) ?_
  refine am_all.c (s_aload_n (kf := 0) (by decide +kernel) rfl rfl) ?_
  refine am_all.c (s_get (C := cn_C) (Tf := ft_C) (N := 7) rfl fi_C (by decide) tw_157 (by decide +kernel) rfl) ?_
  refine am_all.c (s_icmp_ge (off := 16) (by decide +kernel) (by decide) rfl) ?_
  refine am_all.c (s_aload_n (kf := 0) (by decide +kernel) rfl rfl) ?_
  refine am_all.c (s_get (C := cn_C) (Tf := ft_C) (N := 7) rfl fi_C (by decide) tw_156 (by decide +kernel) rfl) ?_
  refine am_all.c (s_iload_n (kf := 1) (by decide +kernel) rfl rfl) ?_
  refine am_all.c (s_zald rfl (by decide +kernel) rfl) ?_
  refine am_all.c (s_if_eq (off := 7) (by decide +kernel) (by decide) rfl) ?_
  refine am_all.c (s_iconst (by decide +kernel) (by decide) rfl) ?_
  refine am_all.c (s_goto (off := 4) (by decide +kernel) (by decide)) ?_
  refine am_all.c (s_iconst (by decide +kernel) (by decide) rfl) ?_
  refine am_all.c (s_zret (by decide +kernel) rfl) ?_
  exact trivial
