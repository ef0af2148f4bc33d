/-! printed by wip/whole/gen/prog.py: each instruction against the abstract one -/
theorem am_all.c {E : am_E} {tb : Nat → am_T} {P : am_P} {T : am_T} {q : Nat × am_I} {l : List (Nat × am_I)} (h1 : am_G E tb P T q.1 q.2) (h2 : am_all E tb P T l) : am_all E tb P T (q :: l) := ⟨h1, h2⟩
set_option maxRecDepth 20000 in
theorem ga_B_init {D : va_G} {dA : Nat → ClassId} {h b L : Nat} {xs : Nat → Int32} (hN : am_nN (am_En D dA h b L xs)) : am_all (am_En D dA h b L xs) mv_tb mv_P tB_init kB_init := by
  unfold kB_init
  refine am_all.c (s_aload_n (kf := 0) (by decide +kernel) rfl rfl) ?_
  refine am_all.c (s_obj mv_P0 tw_61 tw_53 tw_54 (by decide +kernel) rfl) ?_
  refine am_all.c (s_aload_n (kf := 0) (by decide +kernel) rfl rfl) ?_
  refine am_all.c (s_bipush (by decide +kernel) (by decide +kernel) (by decide) rfl) ?_
  refine am_all.c (s_newa (at0 := .int) rfl rfl (Or.inl rfl) tw_81 (by decide +kernel) rfl) ?_
  refine am_all.c (s_put (C := cn_B) (Tf := ft_B) (N := 6) (ty := .array .int) rfl fi_B fy_B fo_B fn_B (by decide) tw_62 (Or.inr ⟨rfl, rfl, rfl⟩) (by decide +kernel) (Or.inr (Or.inr ⟨rfl, Or.inr ⟨_, rfl⟩⟩)) (by decide +kernel) rfl) ?_
  refine am_all.c (s_aload_n (kf := 0) (by decide +kernel) rfl rfl) ?_
  refine am_all.c (s_bipush (by decide +kernel) (by decide +kernel) (by decide) rfl) ?_
  refine am_all.c (s_newa (at0 := .int) rfl rfl (Or.inl rfl) tw_81 (by decide +kernel) rfl) ?_
  refine am_all.c (s_put (C := cn_B) (Tf := ft_B) (N := 6) (ty := .array .int) rfl fi_B fy_B fo_B fn_B (by decide) tw_63 (Or.inr ⟨rfl, rfl, rfl⟩) (by decide +kernel) (Or.inr (Or.inr ⟨rfl, Or.inr ⟨_, rfl⟩⟩)) (by decide +kernel) rfl) ?_
  refine am_all.c (s_aload_n (kf := 0) (by decide +kernel) rfl rfl) ?_
  refine am_all.c (s_bipush (by decide +kernel) (by decide +kernel) (by decide) rfl) ?_
  refine am_all.c (s_newa (at0 := .int) rfl rfl (Or.inl rfl) tw_81 (by decide +kernel) rfl) ?_
  refine am_all.c (s_put (C := cn_B) (Tf := ft_B) (N := 6) (ty := .array .int) rfl fi_B fy_B fo_B fn_B (by decide) tw_64 (Or.inr ⟨rfl, rfl, rfl⟩) (by decide +kernel) (Or.inr (Or.inr ⟨rfl, Or.inr ⟨_, rfl⟩⟩)) (by decide +kernel) rfl) ?_
  refine am_all.c (s_aload_n (kf := 0) (by decide +kernel) rfl rfl) ?_
  refine am_all.c (s_iconst (by decide +kernel) (by decide) rfl) ?_
  refine am_all.c (s_put (C := cn_B) (Tf := ft_B) (N := 6) (ty := .int) rfl fi_B fy_B fo_B fn_B (by decide) tw_65 (Or.inl rfl) (by decide +kernel) (Or.inl ⟨rfl, rfl⟩) (by decide +kernel) rfl) ?_
  refine am_all.c (s_aload_n (kf := 0) (by decide +kernel) rfl rfl) ?_
  refine am_all.c (s_iconst (by decide +kernel) (by decide) rfl) ?_
  refine am_all.c (s_put (C := cn_B) (Tf := ft_B) (N := 6) (ty := .int) rfl fi_B fy_B fo_B fn_B (by decide) tw_66 (Or.inl rfl) (by decide +kernel) (Or.inl ⟨rfl, rfl⟩) (by decide +kernel) rfl) ?_
  refine am_all.c (s_aload_n (kf := 0) (by decide +kernel) rfl rfl) ?_
  refine am_all.c (s_iconst (by decide +kernel) (by decide) rfl) ?_
  refine am_all.c (s_put (C := cn_B) (Tf := ft_B) (N := 6) (ty := .int) rfl fi_B fy_B fo_B fn_B (by decide) tw_67 (Or.inl rfl) (by decide +kernel) (Or.inl ⟨rfl, rfl⟩) (by decide +kernel) rfl) ?_
  refine am_all.c (s_vret (by decide +kernel) rfl) ?_
  exact trivial
set_option maxRecDepth 20000 in
theorem ga_B_messageCount {D : va_G} {dA : Nat → ClassId} {h b L : Nat} {xs : Nat → Int32} (hN : am_nN (am_En D dA h b L xs)) : am_all (am_En D dA h b L xs) mv_tb mv_P tB_messageCount kB_messageCount := by
  unfold kB_messageCount
  refine am_all.c (s_aload_n (kf := 0) (by decide +kernel) rfl rfl) ?_
  refine am_all.c (s_get (C := cn_B) (Tf := ft_B) (N := 6) rfl fi_B (by decide) tw_65 (by decide +kernel) rfl) ?_
  refine am_all.c (s_iret (by decide +kernel) rfl) ?_
  exact trivial
set_option maxRecDepth 20000 in
theorem ga_B_isFull {D : va_G} {dA : Nat → ClassId} {h b L : Nat} {xs : Nat → Int32} (hN : am_nN (am_En D dA h b L xs)) : am_all (am_En D dA h b L xs) mv_tb mv_P tB_isFull kB_isFull := by
  unfold kB_isFull
  refine am_all.c (s_aload_n (kf := 0) (by decide +kernel) rfl rfl) ?_
  refine am_all.c (s_get (C := cn_B) (Tf := ft_B) (N := 6) rfl fi_B (by decide) tw_65 (by decide +kernel) rfl) ?_
  refine am_all.c (s_bipush (by decide +kernel) (by decide +kernel) (by decide) rfl) ?_
  refine am_all.c (s_icmp_lt (off := 7) (by decide +kernel) (by decide) rfl) ?_
  refine am_all.c (s_iconst (by decide +kernel) (by decide) rfl) ?_
  refine am_all.c (s_goto (off := 4) (by decide +kernel) (by decide)) ?_
  refine am_all.c (s_iconst (by decide +kernel) (by decide) rfl) ?_
  refine am_all.c (s_zret (by decide +kernel) rfl) ?_
  exact trivial
set_option maxRecDepth 20000 in
theorem ga_B_nextUid {D : va_G} {dA : Nat → ClassId} {h b L : Nat} {xs : Nat → Int32} (hN : am_nN (am_En D dA h b L xs)) : am_all (am_En D dA h b L xs) mv_tb mv_P tB_nextUid kB_nextUid := by
  unfold kB_nextUid
  refine am_all.c (s_aload_n (kf := 0) (by decide +kernel) rfl rfl) ?_
  refine am_all.c (s_get (C := cn_B) (Tf := ft_B) (N := 6) rfl fi_B (by decide) tw_66 (by decide +kernel) rfl) ?_
  refine am_all.c (s_iret (by decide +kernel) rfl) ?_
  exact trivial
set_option maxRecDepth 20000 in
theorem ga_B_validity {D : va_G} {dA : Nat → ClassId} {h b L : Nat} {xs : Nat → Int32} (hN : am_nN (am_En D dA h b L xs)) : am_all (am_En D dA h b L xs) mv_tb mv_P tB_validity kB_validity := by
  unfold kB_validity
  refine am_all.c (s_aload_n (kf := 0) (by decide +kernel) rfl rfl) ?_
  refine am_all.c (s_get (C := cn_B) (Tf := ft_B) (N := 6) rfl fi_B (by decide) tw_67 (by decide +kernel) rfl) ?_
  refine am_all.c (s_iret (by decide +kernel) rfl) ?_
  exact trivial
set_option maxRecDepth 20000 in
theorem ga_B_growValidity {D : va_G} {dA : Nat → ClassId} {h b L : Nat} {xs : Nat → Int32} (hN : am_nN (am_En D dA h b L xs)) : am_all (am_En D dA h b L xs) mv_tb mv_P tB_growValidity kB_growValidity := by
  unfold kB_growValidity
  refine am_all.c (s_aload_n (kf := 0) (by decide +kernel) rfl rfl) ?_
  refine am_all.c (s_dup (by decide +kernel) rfl) ?_
  refine am_all.c (s_get (C := cn_B) (Tf := ft_B) (N := 6) rfl fi_B (by decide) tw_67 (by decide +kernel) rfl) ?_
  refine am_all.c (s_iconst (by decide +kernel) (by decide) rfl) ?_
  refine am_all.c (s_iadd (by decide +kernel) rfl) ?_
  refine am_all.c (s_put (C := cn_B) (Tf := ft_B) (N := 6) (ty := .int) rfl fi_B fy_B fo_B fn_B (by decide) tw_67 (Or.inl rfl) (by decide +kernel) (Or.inl ⟨rfl, rfl⟩) (by decide +kernel) rfl) ?_
  refine am_all.c (s_vret (by decide +kernel) rfl) ?_
  exact trivial
set_option maxRecDepth 20000 in
theorem ga_B_uidAt {D : va_G} {dA : Nat → ClassId} {h b L : Nat} {xs : Nat → Int32} (hN : am_nN (am_En D dA h b L xs)) : am_all (am_En D dA h b L xs) mv_tb mv_P tB_uidAt kB_uidAt := by
  unfold kB_uidAt
  refine am_all.c (s_aload_n (kf := 0) (by decide +kernel) rfl rfl) ?_
  refine am_all.c (s_get (C := cn_B) (Tf := ft_B) (N := 6) rfl fi_B (by decide) tw_62 (by decide +kernel) rfl) ?_
  refine am_all.c (s_iload_n (kf := 1) (by decide +kernel) rfl rfl) ?_
  refine am_all.c (s_iald rfl (by decide +kernel) rfl) ?_
  refine am_all.c (s_iret (by decide +kernel) rfl) ?_
  exact trivial
set_option maxRecDepth 20000 in
theorem ga_B_flagsAt {D : va_G} {dA : Nat → ClassId} {h b L : Nat} {xs : Nat → Int32} (hN : am_nN (am_En D dA h b L xs)) : am_all (am_En D dA h b L xs) mv_tb mv_P tB_flagsAt kB_flagsAt := by
  unfold kB_flagsAt
  refine am_all.c (s_aload_n (kf := 0) (by decide +kernel) rfl rfl) ?_
  refine am_all.c (s_get (C := cn_B) (Tf := ft_B) (N := 6) rfl fi_B (by decide) tw_63 (by decide +kernel) rfl) ?_
  refine am_all.c (s_iload_n (kf := 1) (by decide +kernel) rfl rfl) ?_
  refine am_all.c (s_iald rfl (by decide +kernel) rfl) ?_
  refine am_all.c (s_iret (by decide +kernel) rfl) ?_
  exact trivial
set_option maxRecDepth 20000 in
theorem ga_B_sizeAt {D : va_G} {dA : Nat → ClassId} {h b L : Nat} {xs : Nat → Int32} (hN : am_nN (am_En D dA h b L xs)) : am_all (am_En D dA h b L xs) mv_tb mv_P tB_sizeAt kB_sizeAt := by
  unfold kB_sizeAt
  refine am_all.c (s_aload_n (kf := 0) (by decide +kernel) rfl rfl) ?_
  refine am_all.c (s_get (C := cn_B) (Tf := ft_B) (N := 6) rfl fi_B (by decide) tw_64 (by decide +kernel) rfl) ?_
  refine am_all.c (s_iload_n (kf := 1) (by decide +kernel) rfl rfl) ?_
  refine am_all.c (s_iald rfl (by decide +kernel) rfl) ?_
  refine am_all.c (s_iret (by decide +kernel) rfl) ?_
  exact trivial
set_option maxRecDepth 20000 in
theorem ga_B_setFlagsAt {D : va_G} {dA : Nat → ClassId} {h b L : Nat} {xs : Nat → Int32} (hN : am_nN (am_En D dA h b L xs)) : am_all (am_En D dA h b L xs) mv_tb mv_P tB_setFlagsAt kB_setFlagsAt := by
  unfold kB_setFlagsAt
  refine am_all.c (s_aload_n (kf := 0) (by decide +kernel) rfl rfl) ?_
  refine am_all.c (s_get (C := cn_B) (Tf := ft_B) (N := 6) rfl fi_B (by decide) tw_63 (by decide +kernel) rfl) ?_
  refine am_all.c (s_iload_n (kf := 1) (by decide +kernel) rfl rfl) ?_
  refine am_all.c (s_iload_n (kf := 2) (by decide +kernel) rfl rfl) ?_
  refine am_all.c (s_iast rfl (by decide +kernel) rfl) ?_
  refine am_all.c (s_vret (by decide +kernel) rfl) ?_
  exact trivial
set_option maxRecDepth 20000 in
theorem ga_B_positionOf {D : va_G} {dA : Nat → ClassId} {h b L : Nat} {xs : Nat → Int32} (hN : am_nN (am_En D dA h b L xs)) : am_all (am_En D dA h b L xs) mv_tb mv_P tB_positionOf kB_positionOf := by
  unfold kB_positionOf
  refine am_all.c (s_iconst (by decide +kernel) (by decide) rfl) ?_
  refine am_all.c (s_istore_n (kf := 2) (by decide +kernel) rfl rfl) ?_
  refine am_all.c (s_iload_n (kf := 2) (by decide +kernel) rfl rfl) ?_
  refine am_all.c (s_aload_n (kf := 0) (by decide +kernel) rfl rfl) ?_
  refine am_all.c (s_get (C := cn_B) (Tf := ft_B) (N := 6) rfl fi_B (by decide) tw_65 (by decide +kernel) rfl) ?_
  refine am_all.c (s_icmp_ge (off := 21) (by decide +kernel) (by decide) rfl) ?_
  refine am_all.c (s_aload_n (kf := 0) (by decide +kernel) rfl rfl) ?_
  refine am_all.c (s_get (C := cn_B) (Tf := ft_B) (N := 6) rfl fi_B (by decide) tw_62 (by decide +kernel) rfl) ?_
  refine am_all.c (s_iload_n (kf := 2) (by decide +kernel) rfl rfl) ?_
  refine am_all.c (s_iald rfl (by decide +kernel) rfl) ?_
  refine am_all.c (s_iload_n (kf := 1) (by decide +kernel) rfl rfl) ?_
  refine am_all.c (s_icmp_ne (off := 5) (by decide +kernel) (by decide) rfl) ?_
  refine am_all.c (s_iload_n (kf := 2) (by decide +kernel) rfl rfl) ?_
  refine am_all.c (s_iret (by decide +kernel) rfl) ?_
  refine am_all.c (s_iinc (by decide +kernel) rfl) ?_
  refine am_all.c (s_goto (off := -23) (by decide +kernel) (by decide)) ?_
  refine am_all.c (s_iconst (by decide +kernel) (by decide) rfl) ?_
  refine am_all.c (s_iret (by decide +kernel) rfl) ?_
  exact trivial
set_option maxRecDepth 20000 in
theorem ga_B_addNew {D : va_G} {dA : Nat → ClassId} {h b L : Nat} {xs : Nat → Int32} (hN : am_nN (am_En D dA h b L xs)) : am_all (am_En D dA h b L xs) mv_tb mv_P tB_addNew kB_addNew := by
  unfold kB_addNew
  refine am_all.c (s_aload_n (kf := 0) (by decide +kernel) rfl rfl) ?_
  refine am_all.c (s_get (C := cn_B) (Tf := ft_B) (N := 6) rfl fi_B (by decide) tw_66 (by decide +kernel) rfl) ?_
  refine am_all.c (s_istore_n (kf := 3) (by decide +kernel) rfl rfl) ?_
  refine am_all.c (s_aload_n (kf := 0) (by decide +kernel) rfl rfl) ?_
  refine am_all.c (s_dup (by decide +kernel) rfl) ?_
  refine am_all.c (s_get (C := cn_B) (Tf := ft_B) (N := 6) rfl fi_B (by decide) tw_66 (by decide +kernel) rfl) ?_
  refine am_all.c (s_iconst (by decide +kernel) (by decide) rfl) ?_
  refine am_all.c (s_iadd (by decide +kernel) rfl) ?_
  refine am_all.c (s_put (C := cn_B) (Tf := ft_B) (N := 6) (ty := .int) rfl fi_B fy_B fo_B fn_B (by decide) tw_66 (Or.inl rfl) (by decide +kernel) (Or.inl ⟨rfl, rfl⟩) (by decide +kernel) rfl) ?_
  refine am_all.c (s_aload_n (kf := 0) (by decide +kernel) rfl rfl) ?_
  refine am_all.c (s_iload_n (kf := 3) (by decide +kernel) rfl rfl) ?_
  refine am_all.c (s_iload_n (kf := 1) (by decide +kernel) rfl rfl) ?_
  refine am_all.c (s_iload_n (kf := 2) (by decide +kernel) rfl rfl) ?_
  refine am_all.c (s_callV (q := (cn_B, ft_B, 6)) (by decide) (ce_B_insert hN) rfl rfl tw_215 tw_216 tw_217 (by decide +kernel) rfl) ?_
  refine am_all.c (s_iload_n (kf := 3) (by decide +kernel) rfl rfl) ?_
  refine am_all.c (s_iret (by decide +kernel) rfl) ?_
  exact trivial
set_option maxRecDepth 20000 in
theorem ga_B_takeBackAdded {D : va_G} {dA : Nat → ClassId} {h b L : Nat} {xs : Nat → Int32} (hN : am_nN (am_En D dA h b L xs)) : am_all (am_En D dA h b L xs) mv_tb mv_P tB_takeBackAdded kB_takeBackAdded := by
  unfold kB_takeBackAdded
  refine am_all.c (s_aload_n (kf := 0) (by decide +kernel) rfl rfl) ?_
  refine am_all.c (s_aload_n (kf := 0) (by decide +kernel) rfl rfl) ?_
  refine am_all.c (s_iload_n (kf := 1) (by decide +kernel) rfl rfl) ?_
  refine am_all.c (s_callV (q := (cn_B, ft_B, 6)) (by decide) (ce_B_positionOf hN) rfl rfl tw_494 tw_327 tw_328 (by decide +kernel) rfl) ?_
  refine am_all.c (s_callV (q := (cn_B, ft_B, 6)) (by decide) (ce_B_removeAt hN) rfl rfl tw_495 tw_299 tw_300 (by decide +kernel) rfl) ?_
  refine am_all.c (s_aload_n (kf := 0) (by decide +kernel) rfl rfl) ?_
  refine am_all.c (s_iload_n (kf := 1) (by decide +kernel) rfl rfl) ?_
  refine am_all.c (s_put (C := cn_B) (Tf := ft_B) (N := 6) (ty := .int) rfl fi_B fy_B fo_B fn_B (by decide) tw_66 (Or.inl rfl) (by decide +kernel) (Or.inl ⟨rfl, rfl⟩) (by decide +kernel) rfl) ?_
  refine am_all.c (s_vret (by decide +kernel) rfl) ?_
  exact trivial
set_option maxRecDepth 20000 in
theorem ga_B_insert {D : va_G} {dA : Nat → ClassId} {h b L : Nat} {xs : Nat → Int32} (hN : am_nN (am_En D dA h b L xs)) : am_all (am_En D dA h b L xs) mv_tb mv_P tB_insert kB_insert := by
  unfold kB_insert
  refine am_all.c (s_aload_n (kf := 0) (by decide +kernel) rfl rfl) ?_
  refine am_all.c (s_callV (q := (cn_B, ft_B, 6)) (by decide) (ce_B_isFull hN) rfl rfl tw_219 tw_208 tw_209 (by decide +kernel) rfl) ?_
  refine am_all.c (s_if_eq (off := 4) (by decide +kernel) (by decide) rfl) ?_
  refine am_all.c (s_vret (by decide +kernel) rfl) ?_
  refine am_all.c (s_aload_n (kf := 0) (by decide +kernel) rfl rfl) ?_
  refine am_all.c (s_get (C := cn_B) (Tf := ft_B) (N := 6) rfl fi_B (by decide) tw_65 (by decide +kernel) rfl) ?_
  refine am_all.c (s_istore (by decide +kernel) rfl) ?_
  refine am_all.c (s_iload (by decide +kernel) rfl) ?_
  refine am_all.c (s_if_le (off := 32) (by decide +kernel) (by decide) rfl) ?_
  refine am_all.c (s_aload_n (kf := 0) (by decide +kernel) rfl rfl) ?_
  refine am_all.c (s_get (C := cn_B) (Tf := ft_B) (N := 6) rfl fi_B (by decide) tw_62 (by decide +kernel) rfl) ?_
  refine am_all.c (s_iload (by decide +kernel) rfl) ?_
  refine am_all.c (s_iconst (by decide +kernel) (by decide) rfl) ?_
  refine am_all.c (s_isub (by decide +kernel) rfl) ?_
  refine am_all.c (s_iald rfl (by decide +kernel) rfl) ?_
  refine am_all.c (s_iload_n (kf := 1) (by decide +kernel) rfl rfl) ?_
  refine am_all.c (s_icmp_le (off := 19) (by decide +kernel) (by decide) rfl) ?_
  refine am_all.c (s_aload_n (kf := 0) (by decide +kernel) rfl rfl) ?_
  refine am_all.c (s_iload (by decide +kernel) rfl) ?_
  refine am_all.c (s_iconst (by decide +kernel) (by decide) rfl) ?_
  refine am_all.c (s_isub (by decide +kernel) rfl) ?_
  refine am_all.c (s_iload (by decide +kernel) rfl) ?_
  refine am_all.c (s_callV (q := (cn_B, ft_B, 6)) (by decide) (ce_B_move hN) rfl rfl tw_220 tw_222 tw_1 (by decide +kernel) rfl) ?_
  refine am_all.c (s_iinc (by decide +kernel) rfl) ?_
  refine am_all.c (s_goto (off := -31) (by decide +kernel) (by decide)) ?_
  refine am_all.c (s_aload_n (kf := 0) (by decide +kernel) rfl rfl) ?_
  refine am_all.c (s_get (C := cn_B) (Tf := ft_B) (N := 6) rfl fi_B (by decide) tw_62 (by decide +kernel) rfl) ?_
  refine am_all.c (s_iload (by decide +kernel) rfl) ?_
  refine am_all.c (s_iload_n (kf := 1) (by decide +kernel) rfl rfl) ?_
  refine am_all.c (s_iast rfl (by decide +kernel) rfl) ?_
  refine am_all.c (s_aload_n (kf := 0) (by decide +kernel) rfl rfl) ?_
  refine am_all.c (s_get (C := cn_B) (Tf := ft_B) (N := 6) rfl fi_B (by decide) tw_63 (by decide +kernel) rfl) ?_
  refine am_all.c (s_iload (by decide +kernel) rfl) ?_
  refine am_all.c (s_iload_n (kf := 2) (by decide +kernel) rfl rfl) ?_
  refine am_all.c (s_iast rfl (by decide +kernel) rfl) ?_
  refine am_all.c (s_aload_n (kf := 0) (by decide +kernel) rfl rfl) ?_
  refine am_all.c (s_get (C := cn_B) (Tf := ft_B) (N := 6) rfl fi_B (by decide) tw_64 (by decide +kernel) rfl) ?_
  refine am_all.c (s_iload (by decide +kernel) rfl) ?_
  refine am_all.c (s_iload_n (kf := 3) (by decide +kernel) rfl rfl) ?_
  refine am_all.c (s_iast rfl (by decide +kernel) rfl) ?_
  refine am_all.c (s_aload_n (kf := 0) (by decide +kernel) rfl rfl) ?_
  refine am_all.c (s_dup (by decide +kernel) rfl) ?_
  refine am_all.c (s_get (C := cn_B) (Tf := ft_B) (N := 6) rfl fi_B (by decide) tw_65 (by decide +kernel) rfl) ?_
  refine am_all.c (s_iconst (by decide +kernel) (by decide) rfl) ?_
  refine am_all.c (s_iadd (by decide +kernel) rfl) ?_
  refine am_all.c (s_put (C := cn_B) (Tf := ft_B) (N := 6) (ty := .int) rfl fi_B fy_B fo_B fn_B (by decide) tw_65 (Or.inl rfl) (by decide +kernel) (Or.inl ⟨rfl, rfl⟩) (by decide +kernel) rfl) ?_
  refine am_all.c (s_vret (by decide +kernel) rfl) ?_
  exact trivial
set_option maxRecDepth 20000 in
theorem ga_B_removeAt {D : va_G} {dA : Nat → ClassId} {h b L : Nat} {xs : Nat → Int32} (hN : am_nN (am_En D dA h b L xs)) : am_all (am_En D dA h b L xs) mv_tb mv_P tB_removeAt kB_removeAt := by
  unfold kB_removeAt
  refine am_all.c (s_iload_n (kf := 1) (by decide +kernel) rfl rfl) ?_
  refine am_all.c (s_if_lt (off := 11) (by decide +kernel) (by decide) rfl) ?_
  refine am_all.c (s_iload_n (kf := 1) (by decide +kernel) rfl rfl) ?_
  refine am_all.c (s_aload_n (kf := 0) (by decide +kernel) rfl rfl) ?_
  refine am_all.c (s_get (C := cn_B) (Tf := ft_B) (N := 6) rfl fi_B (by decide) tw_65 (by decide +kernel) rfl) ?_
  refine am_all.c (s_icmp_lt (off := 4) (by decide +kernel) (by decide) rfl) ?_
  refine am_all.c (s_vret (by decide +kernel) rfl) ?_
  refine am_all.c (s_iload_n (kf := 1) (by decide +kernel) rfl rfl) ?_
  refine am_all.c (s_iconst (by decide +kernel) (by decide) rfl) ?_
  refine am_all.c (s_iadd (by decide +kernel) rfl) ?_
  refine am_all.c (s_istore_n (kf := 2) (by decide +kernel) rfl rfl) ?_
  refine am_all.c (s_iload_n (kf := 2) (by decide +kernel) rfl rfl) ?_
  refine am_all.c (s_aload_n (kf := 0) (by decide +kernel) rfl rfl) ?_
  refine am_all.c (s_get (C := cn_B) (Tf := ft_B) (N := 6) rfl fi_B (by decide) tw_65 (by decide +kernel) rfl) ?_
  refine am_all.c (s_icmp_ge (off := 17) (by decide +kernel) (by decide) rfl) ?_
  refine am_all.c (s_aload_n (kf := 0) (by decide +kernel) rfl rfl) ?_
  refine am_all.c (s_iload_n (kf := 2) (by decide +kernel) rfl rfl) ?_
  refine am_all.c (s_iload_n (kf := 2) (by decide +kernel) rfl rfl) ?_
  refine am_all.c (s_iconst (by decide +kernel) (by decide) rfl) ?_
  refine am_all.c (s_isub (by decide +kernel) rfl) ?_
  refine am_all.c (s_callV (q := (cn_B, ft_B, 6)) (by decide) (ce_B_move hN) rfl rfl tw_220 tw_222 tw_1 (by decide +kernel) rfl) ?_
  refine am_all.c (s_iinc (by decide +kernel) rfl) ?_
  refine am_all.c (s_goto (off := -19) (by decide +kernel) (by decide)) ?_
  refine am_all.c (s_aload_n (kf := 0) (by decide +kernel) rfl rfl) ?_
  refine am_all.c (s_dup (by decide +kernel) rfl) ?_
  refine am_all.c (s_get (C := cn_B) (Tf := ft_B) (N := 6) rfl fi_B (by decide) tw_65 (by decide +kernel) rfl) ?_
  refine am_all.c (s_iconst (by decide +kernel) (by decide) rfl) ?_
  refine am_all.c (s_isub (by decide +kernel) rfl) ?_
  refine am_all.c (s_put (C := cn_B) (Tf := ft_B) (N := 6) (ty := .int) rfl fi_B fy_B fo_B fn_B (by decide) tw_65 (Or.inl rfl) (by decide +kernel) (Or.inl ⟨rfl, rfl⟩) (by decide +kernel) rfl) ?_
  refine am_all.c (s_vret (by decide +kernel) rfl) ?_
  exact trivial
set_option maxRecDepth 20000 in
theorem ga_B_restoreFlags {D : va_G} {dA : Nat → ClassId} {h b L : Nat} {xs : Nat → Int32} (hN : am_nN (am_En D dA h b L xs)) : am_all (am_En D dA h b L xs) mv_tb mv_P tB_restoreFlags kB_restoreFlags := by
  unfold kB_restoreFlags
  refine am_all.c (s_aload_n (kf := 0) (by decide +kernel) rfl rfl) ?_
  refine am_all.c (s_iload_n (kf := 1) (by decide +kernel) rfl rfl) ?_
  refine am_all.c (s_callV (q := (cn_B, ft_B, 6)) (by decide) (ce_B_positionOf hN) rfl rfl tw_494 tw_327 tw_328 (by decide +kernel) rfl) ?_
  refine am_all.c (s_istore_n (kf := 3) (by decide +kernel) rfl rfl) ?_
  refine am_all.c (s_iload_n (kf := 3) (by decide +kernel) rfl rfl) ?_
  refine am_all.c (s_iconst (by decide +kernel) (by decide) rfl) ?_
  refine am_all.c (s_icmp_eq (off := 10) (by decide +kernel) (by decide) rfl) ?_
  refine am_all.c (s_aload_n (kf := 0) (by decide +kernel) rfl rfl) ?_
  refine am_all.c (s_get (C := cn_B) (Tf := ft_B) (N := 6) rfl fi_B (by decide) tw_63 (by decide +kernel) rfl) ?_
  refine am_all.c (s_iload_n (kf := 3) (by decide +kernel) rfl rfl) ?_
  refine am_all.c (s_iload_n (kf := 2) (by decide +kernel) rfl rfl) ?_
  refine am_all.c (s_iast rfl (by decide +kernel) rfl) ?_
  refine am_all.c (s_vret (by decide +kernel) rfl) ?_
  exact trivial
set_option maxRecDepth 20000 in
theorem ga_B_move {D : va_G} {dA : Nat → ClassId} {h b L : Nat} {xs : Nat → Int32} (hN : am_nN (am_En D dA h b L xs)) : am_all (am_En D dA h b L xs) mv_tb mv_P tB_move kB_move := by
  unfold kB_move
  refine am_all.c (s_aload_n (kf := 0) (by decide +kernel) rfl rfl) ?_
  refine am_all.c (s_get (C := cn_B) (Tf := ft_B) (N := 6) rfl fi_B (by decide) tw_62 (by decide +kernel) rfl) ?_
  refine am_all.c (s_iload_n (kf := 2) (by decide +kernel) rfl rfl) ?_
  refine am_all.c (s_aload_n (kf := 0) (by decide +kernel) rfl rfl) ?_
  refine am_all.c (s_get (C := cn_B) (Tf := ft_B) (N := 6) rfl fi_B (by decide) tw_62 (by decide +kernel) rfl) ?_
  refine am_all.c (s_iload_n (kf := 1) (by decide +kernel) rfl rfl) ?_
  refine am_all.c (s_iald rfl (by decide +kernel) rfl) ?_
  refine am_all.c (s_iast rfl (by decide +kernel) rfl) ?_
  refine am_all.c (s_aload_n (kf := 0) (by decide +kernel) rfl rfl) ?_
  refine am_all.c (s_get (C := cn_B) (Tf := ft_B) (N := 6) rfl fi_B (by decide) tw_63 (by decide +kernel) rfl) ?_
  refine am_all.c (s_iload_n (kf := 2) (by decide +kernel) rfl rfl) ?_
  refine am_all.c (s_aload_n (kf := 0) (by decide +kernel) rfl rfl) ?_
  refine am_all.c (s_get (C := cn_B) (Tf := ft_B) (N := 6) rfl fi_B (by decide) tw_63 (by decide +kernel) rfl) ?_
  refine am_all.c (s_iload_n (kf := 1) (by decide +kernel) rfl rfl) ?_
  refine am_all.c (s_iald rfl (by decide +kernel) rfl) ?_
  refine am_all.c (s_iast rfl (by decide +kernel) rfl) ?_
  refine am_all.c (s_aload_n (kf := 0) (by decide +kernel) rfl rfl) ?_
  refine am_all.c (s_get (C := cn_B) (Tf := ft_B) (N := 6) rfl fi_B (by decide) tw_64 (by decide +kernel) rfl) ?_
  refine am_all.c (s_iload_n (kf := 2) (by decide +kernel) rfl rfl) ?_
  refine am_all.c (s_aload_n (kf := 0) (by decide +kernel) rfl rfl) ?_
  refine am_all.c (s_get (C := cn_B) (Tf := ft_B) (N := 6) rfl fi_B (by decide) tw_64 (by decide +kernel) rfl) ?_
  refine am_all.c (s_iload_n (kf := 1) (by decide +kernel) rfl rfl) ?_
  refine am_all.c (s_iald rfl (by decide +kernel) rfl) ?_
  refine am_all.c (s_iast rfl (by decide +kernel) rfl) ?_
  refine am_all.c (s_vret (by decide +kernel) rfl) ?_
  exact trivial
set_option maxRecDepth 20000 in
theorem ga_J_init {D : va_G} {dA : Nat → ClassId} {h b L : Nat} {xs : Nat → Int32} (hN : am_nN (am_En D dA h b L xs)) : am_all (am_En D dA h b L xs) mv_tb mv_P tJ_init kJ_init := by
  unfold kJ_init
  refine am_all.c (s_aload_n (kf := 0) (by decide +kernel) rfl rfl) ?_
  refine am_all.c (s_obj mv_P0 tw_122 tw_53 tw_54 (by decide +kernel) rfl) ?_
  refine am_all.c (s_aload_n (kf := 0) (by decide +kernel) rfl rfl) ?_
  refine am_all.c (s_bipush (by decide +kernel) (by decide +kernel) (by decide) rfl) ?_
  refine am_all.c (s_newa (at0 := .int) rfl rfl (Or.inl rfl) tw_81 (by decide +kernel) rfl) ?_
  refine am_all.c (s_put (C := cn_J) (Tf := ft_J) (N := 7) (ty := .array .int) rfl fi_J fy_J fo_J fn_J (by decide) tw_123 (Or.inr ⟨rfl, rfl, rfl⟩) (by decide +kernel) (Or.inr (Or.inr ⟨rfl, Or.inr ⟨_, rfl⟩⟩)) (by decide +kernel) rfl) ?_
  refine am_all.c (s_aload_n (kf := 0) (by decide +kernel) rfl rfl) ?_
  refine am_all.c (s_bipush (by decide +kernel) (by decide +kernel) (by decide) rfl) ?_
  refine am_all.c (s_newa (at0 := .int) rfl rfl (Or.inl rfl) tw_81 (by decide +kernel) rfl) ?_
  refine am_all.c (s_put (C := cn_J) (Tf := ft_J) (N := 7) (ty := .array .int) rfl fi_J fy_J fo_J fn_J (by decide) tw_124 (Or.inr ⟨rfl, rfl, rfl⟩) (by decide +kernel) (Or.inr (Or.inr ⟨rfl, Or.inr ⟨_, rfl⟩⟩)) (by decide +kernel) rfl) ?_
  refine am_all.c (s_aload_n (kf := 0) (by decide +kernel) rfl rfl) ?_
  refine am_all.c (s_bipush (by decide +kernel) (by decide +kernel) (by decide) rfl) ?_
  refine am_all.c (s_newa (at0 := .int) rfl rfl (Or.inl rfl) tw_81 (by decide +kernel) rfl) ?_
  refine am_all.c (s_put (C := cn_J) (Tf := ft_J) (N := 7) (ty := .array .int) rfl fi_J fy_J fo_J fn_J (by decide) tw_125 (Or.inr ⟨rfl, rfl, rfl⟩) (by decide +kernel) (Or.inr (Or.inr ⟨rfl, Or.inr ⟨_, rfl⟩⟩)) (by decide +kernel) rfl) ?_
  refine am_all.c (s_aload_n (kf := 0) (by decide +kernel) rfl rfl) ?_
  refine am_all.c (s_bipush (by decide +kernel) (by decide +kernel) (by decide) rfl) ?_
  refine am_all.c (s_newa (at0 := .int) rfl rfl (Or.inl rfl) tw_81 (by decide +kernel) rfl) ?_
  refine am_all.c (s_put (C := cn_J) (Tf := ft_J) (N := 7) (ty := .array .int) rfl fi_J fy_J fo_J fn_J (by decide) tw_126 (Or.inr ⟨rfl, rfl, rfl⟩) (by decide +kernel) (Or.inr (Or.inr ⟨rfl, Or.inr ⟨_, rfl⟩⟩)) (by decide +kernel) rfl) ?_
  refine am_all.c (s_aload_n (kf := 0) (by decide +kernel) rfl rfl) ?_
  refine am_all.c (s_bipush (by decide +kernel) (by decide +kernel) (by decide) rfl) ?_
  refine am_all.c (s_newa (at0 := .int) rfl rfl (Or.inl rfl) tw_81 (by decide +kernel) rfl) ?_
  refine am_all.c (s_put (C := cn_J) (Tf := ft_J) (N := 7) (ty := .array .int) rfl fi_J fy_J fo_J fn_J (by decide) tw_127 (Or.inr ⟨rfl, rfl, rfl⟩) (by decide +kernel) (Or.inr (Or.inr ⟨rfl, Or.inr ⟨_, rfl⟩⟩)) (by decide +kernel) rfl) ?_
  refine am_all.c (s_aload_n (kf := 0) (by decide +kernel) rfl rfl) ?_
  refine am_all.c (s_iconst (by decide +kernel) (by decide) rfl) ?_
  refine am_all.c (s_put (C := cn_J) (Tf := ft_J) (N := 7) (ty := .int) rfl fi_J fy_J fo_J fn_J (by decide) tw_128 (Or.inl rfl) (by decide +kernel) (Or.inl ⟨rfl, rfl⟩) (by decide +kernel) rfl) ?_
  refine am_all.c (s_aload_n (kf := 0) (by decide +kernel) rfl rfl) ?_
  refine am_all.c (s_iconst (by decide +kernel) (by decide) rfl) ?_
  refine am_all.c (s_put (C := cn_J) (Tf := ft_J) (N := 7) (ty := .int) rfl fi_J fy_J fo_J fn_J (by decide) tw_129 (Or.inl rfl) (by decide +kernel) (Or.inl ⟨rfl, rfl⟩) (by decide +kernel) rfl) ?_
  refine am_all.c (s_vret (by decide +kernel) rfl) ?_
  exact trivial
set_option maxRecDepth 20000 in
theorem ga_J_changeCount {D : va_G} {dA : Nat → ClassId} {h b L : Nat} {xs : Nat → Int32} (hN : am_nN (am_En D dA h b L xs)) : am_all (am_En D dA h b L xs) mv_tb mv_P tJ_changeCount kJ_changeCount := by
  unfold kJ_changeCount
  refine am_all.c (s_aload_n (kf := 0) (by decide +kernel) rfl rfl) ?_
  refine am_all.c (s_get (C := cn_J) (Tf := ft_J) (N := 7) rfl fi_J (by decide) tw_129 (by decide +kernel) rfl) ?_
  refine am_all.c (s_aload_n (kf := 0) (by decide +kernel) rfl rfl) ?_
  refine am_all.c (s_get (C := cn_J) (Tf := ft_J) (N := 7) rfl fi_J (by decide) tw_128 (by decide +kernel) rfl) ?_
  refine am_all.c (s_iadd (by decide +kernel) rfl) ?_
  refine am_all.c (s_iret (by decide +kernel) rfl) ?_
  exact trivial
set_option maxRecDepth 20000 in
theorem ga_J_durableCount {D : va_G} {dA : Nat → ClassId} {h b L : Nat} {xs : Nat → Int32} (hN : am_nN (am_En D dA h b L xs)) : am_all (am_En D dA h b L xs) mv_tb mv_P tJ_durableCount kJ_durableCount := by
  unfold kJ_durableCount
  refine am_all.c (s_aload_n (kf := 0) (by decide +kernel) rfl rfl) ?_
  refine am_all.c (s_get (C := cn_J) (Tf := ft_J) (N := 7) rfl fi_J (by decide) tw_129 (by decide +kernel) rfl) ?_
  refine am_all.c (s_iret (by decide +kernel) rfl) ?_
  exact trivial
set_option maxRecDepth 20000 in
theorem ga_J_noteAdded {D : va_G} {dA : Nat → ClassId} {h b L : Nat} {xs : Nat → Int32} (hN : am_nN (am_En D dA h b L xs)) : am_all (am_En D dA h b L xs) mv_tb mv_P tJ_noteAdded kJ_noteAdded := by
  unfold kJ_noteAdded
  refine am_all.c (s_aload_n (kf := 0) (by decide +kernel) rfl rfl) ?_
  refine am_all.c (s_iconst (by decide +kernel) (by decide) rfl) ?_
  refine am_all.c (s_iload_n (kf := 1) (by decide +kernel) rfl rfl) ?_
  refine am_all.c (s_iload_n (kf := 2) (by decide +kernel) rfl rfl) ?_
  refine am_all.c (s_iconst (by decide +kernel) (by decide) rfl) ?_
  refine am_all.c (s_iconst (by decide +kernel) (by decide) rfl) ?_
  refine am_all.c (s_callV (q := (cn_J, ft_J, 7)) (by decide) (ce_J_note hN) rfl rfl tw_228 tw_230 tw_2 (by decide +kernel) rfl) ?_
  refine am_all.c (s_vret (by decide +kernel) rfl) ?_
  exact trivial
set_option maxRecDepth 20000 in
theorem ga_J_noteRemoved {D : va_G} {dA : Nat → ClassId} {h b L : Nat} {xs : Nat → Int32} (hN : am_nN (am_En D dA h b L xs)) : am_all (am_En D dA h b L xs) mv_tb mv_P tJ_noteRemoved kJ_noteRemoved := by
  unfold kJ_noteRemoved
  refine am_all.c (s_aload_n (kf := 0) (by decide +kernel) rfl rfl) ?_
  refine am_all.c (s_iconst (by decide +kernel) (by decide) rfl) ?_
  refine am_all.c (s_iload_n (kf := 1) (by decide +kernel) rfl rfl) ?_
  refine am_all.c (s_iload_n (kf := 2) (by decide +kernel) rfl rfl) ?_
  refine am_all.c (s_iload_n (kf := 3) (by decide +kernel) rfl rfl) ?_
  refine am_all.c (s_iload (by decide +kernel) rfl) ?_
  refine am_all.c (s_callV (q := (cn_J, ft_J, 7)) (by decide) (ce_J_note hN) rfl rfl tw_228 tw_230 tw_2 (by decide +kernel) rfl) ?_
  refine am_all.c (s_vret (by decide +kernel) rfl) ?_
  exact trivial
set_option maxRecDepth 20000 in
theorem ga_J_noteFlagsSet {D : va_G} {dA : Nat → ClassId} {h b L : Nat} {xs : Nat → Int32} (hN : am_nN (am_En D dA h b L xs)) : am_all (am_En D dA h b L xs) mv_tb mv_P tJ_noteFlagsSet kJ_noteFlagsSet := by
  unfold kJ_noteFlagsSet
  refine am_all.c (s_aload_n (kf := 0) (by decide +kernel) rfl rfl) ?_
  refine am_all.c (s_iconst (by decide +kernel) (by decide) rfl) ?_
  refine am_all.c (s_iload_n (kf := 1) (by decide +kernel) rfl rfl) ?_
  refine am_all.c (s_iload_n (kf := 2) (by decide +kernel) rfl rfl) ?_
  refine am_all.c (s_iload_n (kf := 3) (by decide +kernel) rfl rfl) ?_
  refine am_all.c (s_iconst (by decide +kernel) (by decide) rfl) ?_
  refine am_all.c (s_callV (q := (cn_J, ft_J, 7)) (by decide) (ce_J_note hN) rfl rfl tw_228 tw_230 tw_2 (by decide +kernel) rfl) ?_
  refine am_all.c (s_vret (by decide +kernel) rfl) ?_
  exact trivial
set_option maxRecDepth 20000 in
theorem ga_J_makeAllDurable {D : va_G} {dA : Nat → ClassId} {h b L : Nat} {xs : Nat → Int32} (hN : am_nN (am_En D dA h b L xs)) : am_all (am_En D dA h b L xs) mv_tb mv_P tJ_makeAllDurable kJ_makeAllDurable := by
  unfold kJ_makeAllDurable
  refine am_all.c (s_aload_n (kf := 0) (by decide +kernel) rfl rfl) ?_
  refine am_all.c (s_dup (by decide +kernel) rfl) ?_
  refine am_all.c (s_get (C := cn_J) (Tf := ft_J) (N := 7) rfl fi_J (by decide) tw_129 (by decide +kernel) rfl) ?_
  refine am_all.c (s_aload_n (kf := 0) (by decide +kernel) rfl rfl) ?_
  refine am_all.c (s_get (C := cn_J) (Tf := ft_J) (N := 7) rfl fi_J (by decide) tw_128 (by decide +kernel) rfl) ?_
  refine am_all.c (s_iadd (by decide +kernel) rfl) ?_
  refine am_all.c (s_put (C := cn_J) (Tf := ft_J) (N := 7) (ty := .int) rfl fi_J fy_J fo_J fn_J (by decide) tw_129 (Or.inl rfl) (by decide +kernel) (Or.inl ⟨rfl, rfl⟩) (by decide +kernel) rfl) ?_
  refine am_all.c (s_aload_n (kf := 0) (by decide +kernel) rfl rfl) ?_
  refine am_all.c (s_iconst (by decide +kernel) (by decide) rfl) ?_
  refine am_all.c (s_put (C := cn_J) (Tf := ft_J) (N := 7) (ty := .int) rfl fi_J fy_J fo_J fn_J (by decide) tw_128 (Or.inl rfl) (by decide +kernel) (Or.inl ⟨rfl, rfl⟩) (by decide +kernel) rfl) ?_
  refine am_all.c (s_vret (by decide +kernel) rfl) ?_
  exact trivial
set_option maxRecDepth 20000 in
theorem ga_J_hasOpenAdditionTo {D : va_G} {dA : Nat → ClassId} {h b L : Nat} {xs : Nat → Int32} (hN : am_nN (am_En D dA h b L xs)) : am_all (am_En D dA h b L xs) mv_tb mv_P tJ_hasOpenAdditionTo kJ_hasOpenAdditionTo := by
  unfold kJ_hasOpenAdditionTo
  refine am_all.c (s_iconst (by decide +kernel) (by decide) rfl) ?_
  refine am_all.c (s_istore_n (kf := 2) (by decide +kernel) rfl rfl) ?_
  refine am_all.c (s_iload_n (kf := 2) (by decide +kernel) rfl rfl) ?_
  refine am_all.c (s_aload_n (kf := 0) (by decide +kernel) rfl rfl) ?_
  refine am_all.c (s_get (C := cn_J) (Tf := ft_J) (N := 7) rfl fi_J (by decide) tw_128 (by decide +kernel) rfl) ?_
  refine am_all.c (s_icmp_ge (off := 30) (by decide +kernel) (by decide) rfl) ?_
  refine am_all.c (s_aload_n (kf := 0) (by decide +kernel) rfl rfl) ?_
  refine am_all.c (s_get (C := cn_J) (Tf := ft_J) (N := 7) rfl fi_J (by decide) tw_123 (by decide +kernel) rfl) ?_
  refine am_all.c (s_iload_n (kf := 2) (by decide +kernel) rfl rfl) ?_
  refine am_all.c (s_iald rfl (by decide +kernel) rfl) ?_
  refine am_all.c (s_if_ne (off := 15) (by decide +kernel) (by decide) rfl) ?_
  refine am_all.c (s_aload_n (kf := 0) (by decide +kernel) rfl rfl) ?_
  refine am_all.c (s_get (C := cn_J) (Tf := ft_J) (N := 7) rfl fi_J (by decide) tw_124 (by decide +kernel) rfl) ?_
  refine am_all.c (s_iload_n (kf := 2) (by decide +kernel) rfl rfl) ?_
  refine am_all.c (s_iald rfl (by decide +kernel) rfl) ?_
  refine am_all.c (s_iload_n (kf := 1) (by decide +kernel) rfl rfl) ?_
  refine am_all.c (s_icmp_ne (off := 5) (by decide +kernel) (by decide) rfl) ?_
  refine am_all.c (s_iconst (by decide +kernel) (by decide) rfl) ?_
  refine am_all.c (s_zret (by decide +kernel) rfl) ?_
  refine am_all.c (s_iinc (by decide +kernel) rfl) ?_
  refine am_all.c (s_goto (off := -32) (by decide +kernel) (by decide)) ?_
  refine am_all.c (s_iconst (by decide +kernel) (by decide) rfl) ?_
  refine am_all.c (s_zret (by decide +kernel) rfl) ?_
  exact trivial
set_option maxRecDepth 20000 in
theorem ga_J_takeBackAll {D : va_G} {dA : Nat → ClassId} {h b L : Nat} {xs : Nat → Int32} (hN : am_nN (am_En D dA h b L xs)) : am_all (am_En D dA h b L xs) mv_tb mv_P tJ_takeBackAll kJ_takeBackAll := by
  unfold kJ_takeBackAll
  refine am_all.c (s_aload_n (kf := 0) (by decide +kernel) rfl rfl) ?_
  refine am_all.c (s_get (C := cn_J) (Tf := ft_J) (N := 7) rfl fi_J (by decide) tw_128 (by decide +kernel) rfl) ?_
  refine am_all.c (s_iconst (by decide +kernel) (by decide) rfl) ?_
  refine am_all.c (s_isub (by decide +kernel) rfl) ?_
  refine am_all.c (s_istore_n (kf := 2) (by decide +kernel) rfl rfl) ?_
  refine am_all.c (s_iload_n (kf := 2) (by decide +kernel) rfl rfl) ?_
  refine am_all.c (s_if_lt (off := 22) (by decide +kernel) (by decide) rfl) ?_
  refine am_all.c (s_aload_n (kf := 0) (by decide +kernel) rfl rfl) ?_
  refine am_all.c (s_iload_n (kf := 2) (by decide +kernel) rfl rfl) ?_
  refine am_all.c (s_aload_n (kf := 1) (by decide +kernel) rfl rfl) ?_
  refine am_all.c (s_aload_n (kf := 0) (by decide +kernel) rfl rfl) ?_
  refine am_all.c (s_get (C := cn_J) (Tf := ft_J) (N := 7) rfl fi_J (by decide) tw_124 (by decide +kernel) rfl) ?_
  refine am_all.c (s_iload_n (kf := 2) (by decide +kernel) rfl rfl) ?_
  refine am_all.c (s_iald rfl (by decide +kernel) rfl) ?_
  refine am_all.c (s_aald rfl (by decide +kernel) rfl) ?_
  refine am_all.c (s_callV (q := (cn_J, ft_J, 7)) (by decide) (ce_J_takeBack hN) rfl rfl tw_486 tw_488 tw_19 (by decide +kernel) rfl) ?_
  refine am_all.c (s_iinc (by decide +kernel) rfl) ?_
  refine am_all.c (s_goto (off := -20) (by decide +kernel) (by decide)) ?_
  refine am_all.c (s_aload_n (kf := 0) (by decide +kernel) rfl rfl) ?_
  refine am_all.c (s_iconst (by decide +kernel) (by decide) rfl) ?_
  refine am_all.c (s_put (C := cn_J) (Tf := ft_J) (N := 7) (ty := .int) rfl fi_J fy_J fo_J fn_J (by decide) tw_128 (Or.inl rfl) (by decide +kernel) (Or.inl ⟨rfl, rfl⟩) (by decide +kernel) rfl) ?_
  refine am_all.c (s_vret (by decide +kernel) rfl) ?_
  exact trivial
set_option maxRecDepth 20000 in
theorem ga_J_takeBack {D : va_G} {dA : Nat → ClassId} {h b L : Nat} {xs : Nat → Int32} (hN : am_nN (am_En D dA h b L xs)) : am_all (am_En D dA h b L xs) mv_tb mv_P tJ_takeBack kJ_takeBack := by
  unfold kJ_takeBack
  refine am_all.c (s_aload_n (kf := 0) (by decide +kernel) rfl rfl) ?_
  refine am_all.c (s_get (C := cn_J) (Tf := ft_J) (N := 7) rfl fi_J (by decide) tw_123 (by decide +kernel) rfl) ?_
  refine am_all.c (s_iload_n (kf := 1) (by decide +kernel) rfl rfl) ?_
  refine am_all.c (s_iald rfl (by decide +kernel) rfl) ?_
  refine am_all.c (s_lsw (dflt := 64) (ps := #[(0, 26), (1, 39)]) (len := 26) (by decide +kernel) (by decide) (by decide) (by decide)) ?_
  refine am_all.c (s_aload_n (kf := 2) (by decide +kernel) rfl rfl) ?_
  refine am_all.c (s_aload_n (kf := 0) (by decide +kernel) rfl rfl) ?_
  refine am_all.c (s_get (C := cn_J) (Tf := ft_J) (N := 7) rfl fi_J (by decide) tw_125 (by decide +kernel) rfl) ?_
  refine am_all.c (s_iload_n (kf := 1) (by decide +kernel) rfl rfl) ?_
  refine am_all.c (s_iald rfl (by decide +kernel) rfl) ?_
  refine am_all.c (s_callV (q := (cn_B, ft_B, 6)) (by decide) (ce_B_takeBackAdded hN) rfl rfl tw_490 tw_491 tw_492 (by decide +kernel) rfl) ?_
  refine am_all.c (s_goto (off := 44) (by decide +kernel) (by decide)) ?_
  refine am_all.c (s_aload_n (kf := 2) (by decide +kernel) rfl rfl) ?_
  refine am_all.c (s_aload_n (kf := 0) (by decide +kernel) rfl rfl) ?_
  refine am_all.c (s_get (C := cn_J) (Tf := ft_J) (N := 7) rfl fi_J (by decide) tw_125 (by decide +kernel) rfl) ?_
  refine am_all.c (s_iload_n (kf := 1) (by decide +kernel) rfl rfl) ?_
  refine am_all.c (s_iald rfl (by decide +kernel) rfl) ?_
  refine am_all.c (s_aload_n (kf := 0) (by decide +kernel) rfl rfl) ?_
  refine am_all.c (s_get (C := cn_J) (Tf := ft_J) (N := 7) rfl fi_J (by decide) tw_126 (by decide +kernel) rfl) ?_
  refine am_all.c (s_iload_n (kf := 1) (by decide +kernel) rfl rfl) ?_
  refine am_all.c (s_iald rfl (by decide +kernel) rfl) ?_
  refine am_all.c (s_aload_n (kf := 0) (by decide +kernel) rfl rfl) ?_
  refine am_all.c (s_get (C := cn_J) (Tf := ft_J) (N := 7) rfl fi_J (by decide) tw_127 (by decide +kernel) rfl) ?_
  refine am_all.c (s_iload_n (kf := 1) (by decide +kernel) rfl rfl) ?_
  refine am_all.c (s_iald rfl (by decide +kernel) rfl) ?_
  refine am_all.c (s_callV (q := (cn_B, ft_B, 6)) (by decide) (ce_B_insert hN) rfl rfl tw_496 tw_216 tw_217 (by decide +kernel) rfl) ?_
  refine am_all.c (s_goto (off := 19) (by decide +kernel) (by decide)) ?_
  refine am_all.c (s_aload_n (kf := 2) (by decide +kernel) rfl rfl) ?_
  refine am_all.c (s_aload_n (kf := 0) (by decide +kernel) rfl rfl) ?_
  refine am_all.c (s_get (C := cn_J) (Tf := ft_J) (N := 7) rfl fi_J (by decide) tw_125 (by decide +kernel) rfl) ?_
  refine am_all.c (s_iload_n (kf := 1) (by decide +kernel) rfl rfl) ?_
  refine am_all.c (s_iald rfl (by decide +kernel) rfl) ?_
  refine am_all.c (s_aload_n (kf := 0) (by decide +kernel) rfl rfl) ?_
  refine am_all.c (s_get (C := cn_J) (Tf := ft_J) (N := 7) rfl fi_J (by decide) tw_126 (by decide +kernel) rfl) ?_
  refine am_all.c (s_iload_n (kf := 1) (by decide +kernel) rfl rfl) ?_
  refine am_all.c (s_iald rfl (by decide +kernel) rfl) ?_
  refine am_all.c (s_callV (q := (cn_B, ft_B, 6)) (by decide) (ce_B_restoreFlags hN) rfl rfl tw_497 tw_498 tw_499 (by decide +kernel) rfl) ?_
  refine am_all.c (s_vret (by decide +kernel) rfl) ?_
  exact trivial
set_option maxRecDepth 20000 in
theorem ga_J_note {D : va_G} {dA : Nat → ClassId} {h b L : Nat} {xs : Nat → Int32} (hN : am_nN (am_En D dA h b L xs)) : am_all (am_En D dA h b L xs) mv_tb mv_P tJ_note kJ_note := by
  unfold kJ_note
  refine am_all.c (s_aload_n (kf := 0) (by decide +kernel) rfl rfl) ?_
  refine am_all.c (s_get (C := cn_J) (Tf := ft_J) (N := 7) rfl fi_J (by decide) tw_123 (by decide +kernel) rfl) ?_
  refine am_all.c (s_aload_n (kf := 0) (by decide +kernel) rfl rfl) ?_
  refine am_all.c (s_get (C := cn_J) (Tf := ft_J) (N := 7) rfl fi_J (by decide) tw_128 (by decide +kernel) rfl) ?_
  refine am_all.c (s_iload_n (kf := 1) (by decide +kernel) rfl rfl) ?_
  refine am_all.c (s_iast rfl (by decide +kernel) rfl) ?_
  refine am_all.c (s_aload_n (kf := 0) (by decide +kernel) rfl rfl) ?_
  refine am_all.c (s_get (C := cn_J) (Tf := ft_J) (N := 7) rfl fi_J (by decide) tw_124 (by decide +kernel) rfl) ?_
  refine am_all.c (s_aload_n (kf := 0) (by decide +kernel) rfl rfl) ?_
  refine am_all.c (s_get (C := cn_J) (Tf := ft_J) (N := 7) rfl fi_J (by decide) tw_128 (by decide +kernel) rfl) ?_
  refine am_all.c (s_iload_n (kf := 2) (by decide +kernel) rfl rfl) ?_
  refine am_all.c (s_iast rfl (by decide +kernel) rfl) ?_
  refine am_all.c (s_aload_n (kf := 0) (by decide +kernel) rfl rfl) ?_
  refine am_all.c (s_get (C := cn_J) (Tf := ft_J) (N := 7) rfl fi_J (by decide) tw_125 (by decide +kernel) rfl) ?_
  refine am_all.c (s_aload_n (kf := 0) (by decide +kernel) rfl rfl) ?_
  refine am_all.c (s_get (C := cn_J) (Tf := ft_J) (N := 7) rfl fi_J (by decide) tw_128 (by decide +kernel) rfl) ?_
  refine am_all.c (s_iload_n (kf := 3) (by decide +kernel) rfl rfl) ?_
  refine am_all.c (s_iast rfl (by decide +kernel) rfl) ?_
  refine am_all.c (s_aload_n (kf := 0) (by decide +kernel) rfl rfl) ?_
  refine am_all.c (s_get (C := cn_J) (Tf := ft_J) (N := 7) rfl fi_J (by decide) tw_126 (by decide +kernel) rfl) ?_
  refine am_all.c (s_aload_n (kf := 0) (by decide +kernel) rfl rfl) ?_
  refine am_all.c (s_get (C := cn_J) (Tf := ft_J) (N := 7) rfl fi_J (by decide) tw_128 (by decide +kernel) rfl) ?_
  refine am_all.c (s_iload (by decide +kernel) rfl) ?_
  refine am_all.c (s_iast rfl (by decide +kernel) rfl) ?_
  refine am_all.c (s_aload_n (kf := 0) (by decide +kernel) rfl rfl) ?_
  refine am_all.c (s_get (C := cn_J) (Tf := ft_J) (N := 7) rfl fi_J (by decide) tw_127 (by decide +kernel) rfl) ?_
  refine am_all.c (s_aload_n (kf := 0) (by decide +kernel) rfl rfl) ?_
  refine am_all.c (s_get (C := cn_J) (Tf := ft_J) (N := 7) rfl fi_J (by decide) tw_128 (by decide +kernel) rfl) ?_
  refine am_all.c (s_iload (by decide +kernel) rfl) ?_
  refine am_all.c (s_iast rfl (by decide +kernel) rfl) ?_
  refine am_all.c (s_aload_n (kf := 0) (by decide +kernel) rfl rfl) ?_
  refine am_all.c (s_dup (by decide +kernel) rfl) ?_
  refine am_all.c (s_get (C := cn_J) (Tf := ft_J) (N := 7) rfl fi_J (by decide) tw_128 (by decide +kernel) rfl) ?_
  refine am_all.c (s_iconst (by decide +kernel) (by decide) rfl) ?_
  refine am_all.c (s_iadd (by decide +kernel) rfl) ?_
  refine am_all.c (s_put (C := cn_J) (Tf := ft_J) (N := 7) (ty := .int) rfl fi_J fy_J fo_J fn_J (by decide) tw_128 (Or.inl rfl) (by decide +kernel) (Or.inl ⟨rfl, rfl⟩) (by decide +kernel) rfl) ?_
  refine am_all.c (s_aload_n (kf := 0) (by decide +kernel) rfl rfl) ?_
  refine am_all.c (s_get (C := cn_J) (Tf := ft_J) (N := 7) rfl fi_J (by decide) tw_128 (by decide +kernel) rfl) ?_
  refine am_all.c (s_bipush (by decide +kernel) (by decide +kernel) (by decide) rfl) ?_
  refine am_all.c (s_icmp_lt (off := 7) (by decide +kernel) (by decide) rfl) ?_
  refine am_all.c (s_aload_n (kf := 0) (by decide +kernel) rfl rfl) ?_
  refine am_all.c (s_callV (q := (cn_J, ft_J, 7)) (by decide) (ce_J_makeAllDurable hN) rfl rfl tw_232 tw_233 tw_234 (by decide +kernel) rfl) ?_
  refine am_all.c (s_vret (by decide +kernel) rfl) ?_
  exact trivial
