/-! printed by wip/whole/gen/prog.py: each instruction against the abstract one -/
set_option maxRecDepth 20000 in
theorem ga_V_init {D : va_G} {dA : Nat → ClassId} {h b L : Nat} {xs : Nat → Int32} (hN : am_nN (am_En D dA h b L xs)) : am_all (am_En D dA h b L xs) mv_tb mv_P tV_init kV_init := by
  unfold kV_init
  refine am_all.c (s_aload_n (kf := 0) (by decide +kernel) rfl rfl) ?_
  refine am_all.c (s_obj mv_P0 tw_52 tw_53 tw_54 (by decide +kernel) rfl) ?_
  refine am_all.c (s_aload_n (kf := 0) (by decide +kernel) rfl rfl) ?_
  refine am_all.c (s_iconst (by decide +kernel) (by decide) rfl) ?_
  refine am_all.c (s_anewa rfl tw_55 nw_0 (by decide +kernel) rfl) ?_
  refine am_all.c (s_put (C := cn_V) (Tf := ft_V) (N := 6) (ty := .array (.object "MailViews$Mailbox")) rfl fi_V fy_V fo_V fn_V (by decide) tw_174 (Or.inr ⟨rfl, rfl, rfl⟩) (by decide +kernel) (Or.inr (Or.inr ⟨rfl, Or.inr ⟨_, rfl⟩⟩)) (by decide +kernel) rfl) ?_
  refine am_all.c (s_iconst (by decide +kernel) (by decide) rfl) ?_
  refine am_all.c (s_istore_n (kf := 1) (by decide +kernel) rfl rfl) ?_
  refine am_all.c (s_iload_n (kf := 1) (by decide +kernel) rfl rfl) ?_
  refine am_all.c (s_iconst (by decide +kernel) (by decide) rfl) ?_
  refine am_all.c (s_icmp_ge (off := 22) (by decide +kernel) (by decide) rfl) ?_
  refine am_all.c (s_aload_n (kf := 0) (by decide +kernel) rfl rfl) ?_
  refine am_all.c (s_get (C := cn_V) (Tf := ft_V) (N := 6) rfl fi_V (by decide) tw_174 (by decide +kernel) rfl) ?_
  refine am_all.c (s_iload_n (kf := 1) (by decide +kernel) rfl rfl) ?_
  refine am_all.c (s_new (C := cn_B) (Tf := ft_B) (N := 6) rfl fi_B fy_B fo_B tw_55 tw_57 tw_41 rfl fz_B fw_B (by decide +kernel) rfl) ?_
  refine am_all.c (s_dup (by decide +kernel) rfl) ?_
  refine am_all.c (s_callI (host := "MailViews") (by decide) (ce_B_init hN) rfl rfl (Or.inr nw_1) tw_59 (by decide +kernel) rfl) ?_
  refine am_all.c (s_aast (q := (cn_B, ft_B, 6)) rfl rfl (by decide +kernel) rfl) ?_
  refine am_all.c (s_iinc (by decide +kernel) rfl) ?_
  refine am_all.c (s_goto (off := -21) (by decide +kernel) (by decide)) ?_
  refine am_all.c (s_aload_n (kf := 0) (by decide +kernel) rfl rfl) ?_
  refine am_all.c (s_iconst (by decide +kernel) (by decide) rfl) ?_
  refine am_all.c (s_anewa rfl tw_82 nw_2 (by decide +kernel) rfl) ?_
  refine am_all.c (s_put (C := cn_V) (Tf := ft_V) (N := 6) (ty := .array (.object "MailViews$Session")) rfl fi_V fy_V fo_V fn_V (by decide) tw_175 (Or.inr ⟨rfl, rfl, rfl⟩) (by decide +kernel) (Or.inr (Or.inr ⟨rfl, Or.inr ⟨_, rfl⟩⟩)) (by decide +kernel) rfl) ?_
  refine am_all.c (s_iconst (by decide +kernel) (by decide) rfl) ?_
  refine am_all.c (s_istore_n (kf := 1) (by decide +kernel) rfl rfl) ?_
  refine am_all.c (s_iload_n (kf := 1) (by decide +kernel) rfl rfl) ?_
  refine am_all.c (s_iconst (by decide +kernel) (by decide) rfl) ?_
  refine am_all.c (s_icmp_ge (off := 22) (by decide +kernel) (by decide) rfl) ?_
  refine am_all.c (s_aload_n (kf := 0) (by decide +kernel) rfl rfl) ?_
  refine am_all.c (s_get (C := cn_V) (Tf := ft_V) (N := 6) rfl fi_V (by decide) tw_175 (by decide +kernel) rfl) ?_
  refine am_all.c (s_iload_n (kf := 1) (by decide +kernel) rfl rfl) ?_
  refine am_all.c (s_new (C := cn_S) (Tf := ft_S) (N := 9) rfl fi_S fy_S fo_S tw_82 tw_84 tw_42 rfl fz_S fw_S (by decide +kernel) rfl) ?_
  refine am_all.c (s_dup (by decide +kernel) rfl) ?_
  refine am_all.c (s_callI (host := "MailViews") (by decide) (ce_S_init hN) rfl rfl (Or.inr nw_3) tw_86 (by decide +kernel) rfl) ?_
  refine am_all.c (s_aast (q := (cn_S, ft_S, 9)) rfl rfl (by decide +kernel) rfl) ?_
  refine am_all.c (s_iinc (by decide +kernel) rfl) ?_
  refine am_all.c (s_goto (off := -21) (by decide +kernel) (by decide)) ?_
  refine am_all.c (s_aload_n (kf := 0) (by decide +kernel) rfl rfl) ?_
  refine am_all.c (s_new (C := cn_J) (Tf := ft_J) (N := 7) rfl fi_J fy_J fo_J tw_117 tw_118 tw_43 rfl fz_J fw_J (by decide +kernel) rfl) ?_
  refine am_all.c (s_dup (by decide +kernel) rfl) ?_
  refine am_all.c (s_callI (host := "MailViews") (by decide) (ce_J_init hN) rfl rfl (Or.inr nw_4) tw_120 (by decide +kernel) rfl) ?_
  refine am_all.c (s_put (C := cn_V) (Tf := ft_V) (N := 6) (ty := .object "MailViews$Journal") rfl fi_V fy_V fo_V fn_V (by decide) tw_176 (Or.inr ⟨rfl, rfl, rfl⟩) (by decide +kernel) (Or.inr (Or.inr ⟨rfl, Or.inl ⟨_, rfl⟩⟩)) (by decide +kernel) rfl) ?_
  refine am_all.c (s_aload_n (kf := 0) (by decide +kernel) rfl rfl) ?_
  refine am_all.c (s_new (C := cn_C) (Tf := ft_C) (N := 7) rfl fi_C fy_C fo_C tw_145 tw_146 tw_44 rfl fz_C fw_C (by decide +kernel) rfl) ?_
  refine am_all.c (s_dup (by decide +kernel) rfl) ?_
  refine am_all.c (s_callI (host := "MailViews") (by decide) (ce_C_init hN) rfl rfl (Or.inr nw_5) tw_148 (by decide +kernel) rfl) ?_
  refine am_all.c (s_put (C := cn_V) (Tf := ft_V) (N := 6) (ty := .object "MailViews$Criterion") rfl fi_V fy_V fo_V fn_V (by decide) tw_177 (Or.inr ⟨rfl, rfl, rfl⟩) (by decide +kernel) (Or.inr (Or.inr ⟨rfl, Or.inl ⟨_, rfl⟩⟩)) (by decide +kernel) rfl) ?_
  refine am_all.c (s_aload_n (kf := 0) (by decide +kernel) rfl rfl) ?_
  refine am_all.c (s_bipush (by decide +kernel) (by decide +kernel) (by decide) rfl) ?_
  refine am_all.c (s_newa (at0 := .int) rfl rfl (Or.inl rfl) tw_81 (by decide +kernel) rfl) ?_
  refine am_all.c (s_put (C := cn_V) (Tf := ft_V) (N := 6) (ty := .array .int) rfl fi_V fy_V fo_V fn_V (by decide) tw_178 (Or.inr ⟨rfl, rfl, rfl⟩) (by decide +kernel) (Or.inr (Or.inr ⟨rfl, Or.inr ⟨_, rfl⟩⟩)) (by decide +kernel) rfl) ?_
  refine am_all.c (s_aload_n (kf := 0) (by decide +kernel) rfl rfl) ?_
  refine am_all.c (s_iconst (by decide +kernel) (by decide) rfl) ?_
  refine am_all.c (s_put (C := cn_V) (Tf := ft_V) (N := 6) (ty := .int) rfl fi_V fy_V fo_V fn_V (by decide) tw_179 (Or.inl rfl) (by decide +kernel) (Or.inl ⟨rfl, rfl⟩) (by decide +kernel) rfl) ?_
  refine am_all.c (s_vret (by decide +kernel) rfl) ?_
  exact trivial
set_option maxRecDepth 20000 in
theorem ga_V_append {D : va_G} {dA : Nat → ClassId} {h b L : Nat} {xs : Nat → Int32} (hN : am_nN (am_En D dA h b L xs)) : am_all (am_En D dA h b L xs) mv_tb mv_P tV_append kV_append := by
  unfold kV_append
  refine am_all.c (s_iload_n (kf := 1) (by decide +kernel) rfl rfl) ?_
  refine am_all.c (s_callS (by decide) (ce_V_isMailbox hN) tw_197 tw_198 (by decide +kernel) rfl) ?_
  refine am_all.c (s_if_eq (off := 22) (by decide +kernel) (by decide) rfl) ?_
  refine am_all.c (s_iload_n (kf := 2) (by decide +kernel) rfl rfl) ?_
  refine am_all.c (s_callS (by decide) (ce_V_areFlags hN) tw_200 tw_201 (by decide +kernel) rfl) ?_
  refine am_all.c (s_if_eq (off := 15) (by decide +kernel) (by decide) rfl) ?_
  refine am_all.c (s_iload_n (kf := 3) (by decide +kernel) rfl rfl) ?_
  refine am_all.c (s_iconst (by decide +kernel) (by decide) rfl) ?_
  refine am_all.c (s_icmp_lt (off := 10) (by decide +kernel) (by decide) rfl) ?_
  refine am_all.c (s_iload_n (kf := 3) (by decide +kernel) rfl rfl) ?_
  refine am_all.c (s_sipush (by decide +kernel) (by decide +kernel) (by decide) rfl) ?_
  refine am_all.c (s_icmp_le (off := 5) (by decide +kernel) (by decide) rfl) ?_
  refine am_all.c (s_iconst (by decide +kernel) (by decide) rfl) ?_
  refine am_all.c (s_iret (by decide +kernel) rfl) ?_
  refine am_all.c (s_aload_n (kf := 0) (by decide +kernel) rfl rfl) ?_
  refine am_all.c (s_iload_n (kf := 1) (by decide +kernel) rfl rfl) ?_
  refine am_all.c (s_iload_n (kf := 2) (by decide +kernel) rfl rfl) ?_
  refine am_all.c (s_iload_n (kf := 3) (by decide +kernel) rfl rfl) ?_
  refine am_all.c (s_callV (q := (cn_V, ft_V, 6)) (by decide) (ce_V_add hN) rfl rfl tw_203 tw_205 tw_0 (by decide +kernel) rfl) ?_
  refine am_all.c (s_iret (by decide +kernel) rfl) ?_
  exact trivial
set_option maxRecDepth 20000 in
theorem ga_V_select {D : va_G} {dA : Nat → ClassId} {h b L : Nat} {xs : Nat → Int32} (hN : am_nN (am_En D dA h b L xs)) : am_all (am_En D dA h b L xs) mv_tb mv_P tV_select kV_select := by
  unfold kV_select
  refine am_all.c (s_iload_n (kf := 1) (by decide +kernel) rfl rfl) ?_
  refine am_all.c (s_callS (by decide) (ce_V_isSession hN) tw_240 tw_241 (by decide +kernel) rfl) ?_
  refine am_all.c (s_if_eq (off := 10) (by decide +kernel) (by decide) rfl) ?_
  refine am_all.c (s_iload_n (kf := 2) (by decide +kernel) rfl rfl) ?_
  refine am_all.c (s_callS (by decide) (ce_V_isMailbox hN) tw_197 tw_198 (by decide +kernel) rfl) ?_
  refine am_all.c (s_if_ne (off := 5) (by decide +kernel) (by decide) rfl) ?_
  refine am_all.c (s_iconst (by decide +kernel) (by decide) rfl) ?_
  refine am_all.c (s_iret (by decide +kernel) rfl) ?_
  refine am_all.c (s_aload_n (kf := 0) (by decide +kernel) rfl rfl) ?_
  refine am_all.c (s_get (C := cn_V) (Tf := ft_V) (N := 6) rfl fi_V (by decide) tw_175 (by decide +kernel) rfl) ?_
  refine am_all.c (s_iload_n (kf := 1) (by decide +kernel) rfl rfl) ?_
  refine am_all.c (s_aald rfl (by decide +kernel) rfl) ?_
  refine am_all.c (s_iload_n (kf := 2) (by decide +kernel) rfl rfl) ?_
  refine am_all.c (s_iload_n (kf := 3) (by decide +kernel) rfl rfl) ?_
  refine am_all.c (s_aload_n (kf := 0) (by decide +kernel) rfl rfl) ?_
  refine am_all.c (s_get (C := cn_V) (Tf := ft_V) (N := 6) rfl fi_V (by decide) tw_174 (by decide +kernel) rfl) ?_
  refine am_all.c (s_iload_n (kf := 2) (by decide +kernel) rfl rfl) ?_
  refine am_all.c (s_aald rfl (by decide +kernel) rfl) ?_
  refine am_all.c (s_callV (q := (cn_S, ft_S, 9)) (by decide) (ce_S_open hN) rfl rfl tw_243 tw_244 tw_245 (by decide +kernel) rfl) ?_
  refine am_all.c (s_aload_n (kf := 0) (by decide +kernel) rfl rfl) ?_
  refine am_all.c (s_get (C := cn_V) (Tf := ft_V) (N := 6) rfl fi_V (by decide) tw_175 (by decide +kernel) rfl) ?_
  refine am_all.c (s_iload_n (kf := 1) (by decide +kernel) rfl rfl) ?_
  refine am_all.c (s_aald rfl (by decide +kernel) rfl) ?_
  refine am_all.c (s_callV (q := (cn_S, ft_S, 9)) (by decide) (ce_S_viewLength hN) rfl rfl tw_263 tw_264 tw_265 (by decide +kernel) rfl) ?_
  refine am_all.c (s_iret (by decide +kernel) rfl) ?_
  exact trivial
set_option maxRecDepth 20000 in
theorem ga_V_close {D : va_G} {dA : Nat → ClassId} {h b L : Nat} {xs : Nat → Int32} (hN : am_nN (am_En D dA h b L xs)) : am_all (am_En D dA h b L xs) mv_tb mv_P tV_close kV_close := by
  unfold kV_close
  refine am_all.c (s_aload_n (kf := 0) (by decide +kernel) rfl rfl) ?_
  refine am_all.c (s_iload_n (kf := 1) (by decide +kernel) rfl rfl) ?_
  refine am_all.c (s_callV (q := (cn_V, ft_V, 6)) (by decide) (ce_V_hasMailbox hN) rfl rfl tw_271 tw_273 tw_4 (by decide +kernel) rfl) ?_
  refine am_all.c (s_if_ne (off := 5) (by decide +kernel) (by decide) rfl) ?_
  refine am_all.c (s_iconst (by decide +kernel) (by decide) rfl) ?_
  refine am_all.c (s_iret (by decide +kernel) rfl) ?_
  refine am_all.c (s_aload_n (kf := 0) (by decide +kernel) rfl rfl) ?_
  refine am_all.c (s_get (C := cn_V) (Tf := ft_V) (N := 6) rfl fi_V (by decide) tw_175 (by decide +kernel) rfl) ?_
  refine am_all.c (s_iload_n (kf := 1) (by decide +kernel) rfl rfl) ?_
  refine am_all.c (s_aald rfl (by decide +kernel) rfl) ?_
  refine am_all.c (s_astore_n (kf := 2) (by decide +kernel) rfl rfl) ?_
  refine am_all.c (s_aload_n (kf := 2) (by decide +kernel) rfl rfl) ?_
  refine am_all.c (s_callV (q := (cn_S, ft_S, 9)) (by decide) (ce_S_isReadOnly hN) rfl rfl tw_279 tw_280 tw_281 (by decide +kernel) rfl) ?_
  refine am_all.c (s_if_eq (off := 7) (by decide +kernel) (by decide) rfl) ?_
  refine am_all.c (s_iconst (by decide +kernel) (by decide) rfl) ?_
  refine am_all.c (s_goto (off := 11) (by decide +kernel) (by decide)) ?_
  refine am_all.c (s_aload_n (kf := 0) (by decide +kernel) rfl rfl) ?_
  refine am_all.c (s_aload_n (kf := 2) (by decide +kernel) rfl rfl) ?_
  refine am_all.c (s_callV (q := (cn_S, ft_S, 9)) (by decide) (ce_S_mailboxNumber hN) rfl rfl tw_275 tw_276 tw_277 (by decide +kernel) rfl) ?_
  refine am_all.c (s_callV (q := (cn_V, ft_V, 6)) (by decide) (ce_V_removeDeleted hN) rfl rfl tw_283 tw_285 tw_5 (by decide +kernel) rfl) ?_
  refine am_all.c (s_istore_n (kf := 3) (by decide +kernel) rfl rfl) ?_
  refine am_all.c (s_aload_n (kf := 2) (by decide +kernel) rfl rfl) ?_
  refine am_all.c (s_callV (q := (cn_S, ft_S, 9)) (by decide) (ce_S_leave hN) rfl rfl tw_302 tw_303 tw_304 (by decide +kernel) rfl) ?_
  refine am_all.c (s_iload_n (kf := 3) (by decide +kernel) rfl rfl) ?_
  refine am_all.c (s_iret (by decide +kernel) rfl) ?_
  exact trivial
set_option maxRecDepth 20000 in
theorem ga_V_check {D : va_G} {dA : Nat → ClassId} {h b L : Nat} {xs : Nat → Int32} (hN : am_nN (am_En D dA h b L xs)) : am_all (am_En D dA h b L xs) mv_tb mv_P tV_check kV_check := by
  unfold kV_check
  refine am_all.c (s_aload_n (kf := 0) (by decide +kernel) rfl rfl) ?_
  refine am_all.c (s_iload_n (kf := 1) (by decide +kernel) rfl rfl) ?_
  refine am_all.c (s_callV (q := (cn_V, ft_V, 6)) (by decide) (ce_V_hasMailbox hN) rfl rfl tw_271 tw_273 tw_4 (by decide +kernel) rfl) ?_
  refine am_all.c (s_if_ne (off := 5) (by decide +kernel) (by decide) rfl) ?_
  refine am_all.c (s_iconst (by decide +kernel) (by decide) rfl) ?_
  refine am_all.c (s_iret (by decide +kernel) rfl) ?_
  refine am_all.c (s_aload_n (kf := 0) (by decide +kernel) rfl rfl) ?_
  refine am_all.c (s_iload_n (kf := 1) (by decide +kernel) rfl rfl) ?_
  refine am_all.c (s_iconst (by decide +kernel) (by decide) rfl) ?_
  refine am_all.c (s_callV (q := (cn_V, ft_V, 6)) (by decide) (ce_V_update hN) rfl rfl tw_310 tw_312 tw_6 (by decide +kernel) rfl) ?_
  refine am_all.c (s_aload_n (kf := 0) (by decide +kernel) rfl rfl) ?_
  refine am_all.c (s_get (C := cn_V) (Tf := ft_V) (N := 6) rfl fi_V (by decide) tw_175 (by decide +kernel) rfl) ?_
  refine am_all.c (s_iload_n (kf := 1) (by decide +kernel) rfl rfl) ?_
  refine am_all.c (s_aald rfl (by decide +kernel) rfl) ?_
  refine am_all.c (s_callV (q := (cn_S, ft_S, 9)) (by decide) (ce_S_noticeCount hN) rfl rfl tw_350 tw_351 tw_352 (by decide +kernel) rfl) ?_
  refine am_all.c (s_iret (by decide +kernel) rfl) ?_
  exact trivial
set_option maxRecDepth 20000 in
theorem ga_V_fetch {D : va_G} {dA : Nat → ClassId} {h b L : Nat} {xs : Nat → Int32} (hN : am_nN (am_En D dA h b L xs)) : am_all (am_En D dA h b L xs) mv_tb mv_P tV_fetch kV_fetch := by
  unfold kV_fetch
  refine am_all.c (s_aload_n (kf := 0) (by decide +kernel) rfl rfl) ?_
  refine am_all.c (s_iload_n (kf := 1) (by decide +kernel) rfl rfl) ?_
  refine am_all.c (s_iload_n (kf := 2) (by decide +kernel) rfl rfl) ?_
  refine am_all.c (s_callV (q := (cn_V, ft_V, 6)) (by decide) (ce_V_isInView hN) rfl rfl tw_358 tw_360 tw_11 (by decide +kernel) rfl) ?_
  refine am_all.c (s_if_ne (off := 5) (by decide +kernel) (by decide) rfl) ?_
  refine am_all.c (s_iconst (by decide +kernel) (by decide) rfl) ?_
  refine am_all.c (s_iret (by decide +kernel) rfl) ?_
  refine am_all.c (s_aload_n (kf := 0) (by decide +kernel) rfl rfl) ?_
  refine am_all.c (s_iload_n (kf := 1) (by decide +kernel) rfl rfl) ?_
  refine am_all.c (s_callV (q := (cn_V, ft_V, 6)) (by decide) (ce_V_mailboxOf hN) rfl rfl tw_314 tw_316 tw_7 (by decide +kernel) rfl) ?_
  refine am_all.c (s_astore_n (kf := 3) (by decide +kernel) rfl rfl) ?_
  refine am_all.c (s_aload_n (kf := 3) (by decide +kernel) rfl rfl) ?_
  refine am_all.c (s_aload_n (kf := 0) (by decide +kernel) rfl rfl) ?_
  refine am_all.c (s_get (C := cn_V) (Tf := ft_V) (N := 6) rfl fi_V (by decide) tw_175 (by decide +kernel) rfl) ?_
  refine am_all.c (s_iload_n (kf := 1) (by decide +kernel) rfl rfl) ?_
  refine am_all.c (s_aald rfl (by decide +kernel) rfl) ?_
  refine am_all.c (s_iload_n (kf := 2) (by decide +kernel) rfl rfl) ?_
  refine am_all.c (s_callV (q := (cn_S, ft_S, 9)) (by decide) (ce_S_uidOf hN) rfl rfl tw_362 tw_339 tw_340 (by decide +kernel) rfl) ?_
  refine am_all.c (s_callV (q := (cn_B, ft_B, 6)) (by decide) (ce_B_positionOf hN) rfl rfl tw_363 tw_327 tw_328 (by decide +kernel) rfl) ?_
  refine am_all.c (s_istore (by decide +kernel) rfl) ?_
  refine am_all.c (s_iload (by decide +kernel) rfl) ?_
  refine am_all.c (s_iconst (by decide +kernel) (by decide) rfl) ?_
  refine am_all.c (s_icmp_ne (off := 6) (by decide +kernel) (by decide) rfl) ?_
  refine am_all.c (s_bipush (by decide +kernel) (by decide +kernel) (by decide) rfl) ?_
  refine am_all.c (s_iret (by decide +kernel) rfl) ?_
  refine am_all.c (s_aload_n (kf := 0) (by decide +kernel) rfl rfl) ?_
  refine am_all.c (s_get (C := cn_V) (Tf := ft_V) (N := 6) rfl fi_V (by decide) tw_175 (by decide +kernel) rfl) ?_
  refine am_all.c (s_iload_n (kf := 1) (by decide +kernel) rfl rfl) ?_
  refine am_all.c (s_aald rfl (by decide +kernel) rfl) ?_
  refine am_all.c (s_iload_n (kf := 2) (by decide +kernel) rfl rfl) ?_
  refine am_all.c (s_aload_n (kf := 3) (by decide +kernel) rfl rfl) ?_
  refine am_all.c (s_iload (by decide +kernel) rfl) ?_
  refine am_all.c (s_callV (q := (cn_B, ft_B, 6)) (by decide) (ce_B_flagsAt hN) rfl rfl tw_288 tw_260 tw_261 (by decide +kernel) rfl) ?_
  refine am_all.c (s_callV (q := (cn_S, ft_S, 9)) (by decide) (ce_S_know hN) rfl rfl tw_364 tw_347 tw_348 (by decide +kernel) rfl) ?_
  refine am_all.c (s_aload_n (kf := 3) (by decide +kernel) rfl rfl) ?_
  refine am_all.c (s_iload (by decide +kernel) rfl) ?_
  refine am_all.c (s_callV (q := (cn_B, ft_B, 6)) (by decide) (ce_B_flagsAt hN) rfl rfl tw_288 tw_260 tw_261 (by decide +kernel) rfl) ?_
  refine am_all.c (s_iret (by decide +kernel) rfl) ?_
  exact trivial
set_option maxRecDepth 20000 in
theorem ga_V_store {D : va_G} {dA : Nat → ClassId} {h b L : Nat} {xs : Nat → Int32} (hN : am_nN (am_En D dA h b L xs)) : am_all (am_En D dA h b L xs) mv_tb mv_P tV_store kV_store := by
  unfold kV_store
  refine am_all.c (s_iload_n (kf := 3) (by decide +kernel) rfl rfl) ?_
  refine am_all.c (s_if_lt (off := 25) (by decide +kernel) (by decide) rfl) ?_
  refine am_all.c (s_iload_n (kf := 3) (by decide +kernel) rfl rfl) ?_
  refine am_all.c (s_iconst (by decide +kernel) (by decide) rfl) ?_
  refine am_all.c (s_icmp_gt (off := 20) (by decide +kernel) (by decide) rfl) ?_
  refine am_all.c (s_iload (by decide +kernel) rfl) ?_
  refine am_all.c (s_callS (by decide) (ce_V_areFlags hN) tw_200 tw_201 (by decide +kernel) rfl) ?_
  refine am_all.c (s_if_eq (off := 12) (by decide +kernel) (by decide) rfl) ?_
  refine am_all.c (s_aload_n (kf := 0) (by decide +kernel) rfl rfl) ?_
  refine am_all.c (s_iload_n (kf := 1) (by decide +kernel) rfl rfl) ?_
  refine am_all.c (s_iload_n (kf := 2) (by decide +kernel) rfl rfl) ?_
  refine am_all.c (s_callV (q := (cn_V, ft_V, 6)) (by decide) (ce_V_isInView hN) rfl rfl tw_358 tw_360 tw_11 (by decide +kernel) rfl) ?_
  refine am_all.c (s_if_ne (off := 5) (by decide +kernel) (by decide) rfl) ?_
  refine am_all.c (s_iconst (by decide +kernel) (by decide) rfl) ?_
  refine am_all.c (s_iret (by decide +kernel) rfl) ?_
  refine am_all.c (s_aload_n (kf := 0) (by decide +kernel) rfl rfl) ?_
  refine am_all.c (s_get (C := cn_V) (Tf := ft_V) (N := 6) rfl fi_V (by decide) tw_175 (by decide +kernel) rfl) ?_
  refine am_all.c (s_iload_n (kf := 1) (by decide +kernel) rfl rfl) ?_
  refine am_all.c (s_aald rfl (by decide +kernel) rfl) ?_
  refine am_all.c (s_callV (q := (cn_S, ft_S, 9)) (by decide) (ce_S_isReadOnly hN) rfl rfl tw_279 tw_280 tw_281 (by decide +kernel) rfl) ?_
  refine am_all.c (s_if_eq (off := 6) (by decide +kernel) (by decide) rfl) ?_
  refine am_all.c (s_bipush (by decide +kernel) (by decide +kernel) (by decide) rfl) ?_
  refine am_all.c (s_iret (by decide +kernel) rfl) ?_
  refine am_all.c (s_aload_n (kf := 0) (by decide +kernel) rfl rfl) ?_
  refine am_all.c (s_iload_n (kf := 1) (by decide +kernel) rfl rfl) ?_
  refine am_all.c (s_callV (q := (cn_V, ft_V, 6)) (by decide) (ce_V_mailboxOf hN) rfl rfl tw_314 tw_316 tw_7 (by decide +kernel) rfl) ?_
  refine am_all.c (s_astore (by decide +kernel) rfl) ?_
  refine am_all.c (s_aload_n (kf := 0) (by decide +kernel) rfl rfl) ?_
  refine am_all.c (s_get (C := cn_V) (Tf := ft_V) (N := 6) rfl fi_V (by decide) tw_175 (by decide +kernel) rfl) ?_
  refine am_all.c (s_iload_n (kf := 1) (by decide +kernel) rfl rfl) ?_
  refine am_all.c (s_aald rfl (by decide +kernel) rfl) ?_
  refine am_all.c (s_iload_n (kf := 2) (by decide +kernel) rfl rfl) ?_
  refine am_all.c (s_callV (q := (cn_S, ft_S, 9)) (by decide) (ce_S_uidOf hN) rfl rfl tw_362 tw_339 tw_340 (by decide +kernel) rfl) ?_
  refine am_all.c (s_istore (by decide +kernel) rfl) ?_
  refine am_all.c (s_aload (by decide +kernel) rfl) ?_
  refine am_all.c (s_iload (by decide +kernel) rfl) ?_
  refine am_all.c (s_callV (q := (cn_B, ft_B, 6)) (by decide) (ce_B_positionOf hN) rfl rfl tw_363 tw_327 tw_328 (by decide +kernel) rfl) ?_
  refine am_all.c (s_istore (by decide +kernel) rfl) ?_
  refine am_all.c (s_iload (by decide +kernel) rfl) ?_
  refine am_all.c (s_iconst (by decide +kernel) (by decide) rfl) ?_
  refine am_all.c (s_icmp_ne (off := 6) (by decide +kernel) (by decide) rfl) ?_
  refine am_all.c (s_bipush (by decide +kernel) (by decide +kernel) (by decide) rfl) ?_
  refine am_all.c (s_iret (by decide +kernel) rfl) ?_
  refine am_all.c (s_aload (by decide +kernel) rfl) ?_
  refine am_all.c (s_iload (by decide +kernel) rfl) ?_
  refine am_all.c (s_callV (q := (cn_B, ft_B, 6)) (by decide) (ce_B_flagsAt hN) rfl rfl tw_288 tw_260 tw_261 (by decide +kernel) rfl) ?_
  refine am_all.c (s_istore (by decide +kernel) rfl) ?_
  refine am_all.c (s_iload (by decide +kernel) rfl) ?_
  refine am_all.c (s_iload_n (kf := 3) (by decide +kernel) rfl rfl) ?_
  refine am_all.c (s_iload (by decide +kernel) rfl) ?_
  refine am_all.c (s_callS (by decide) (ce_V_changedFlags hN) tw_369 tw_370 (by decide +kernel) rfl) ?_
  refine am_all.c (s_istore (by decide +kernel) rfl) ?_
  refine am_all.c (s_aload (by decide +kernel) rfl) ?_
  refine am_all.c (s_iload (by decide +kernel) rfl) ?_
  refine am_all.c (s_iload (by decide +kernel) rfl) ?_
  refine am_all.c (s_callV (q := (cn_B, ft_B, 6)) (by decide) (ce_B_setFlagsAt hN) rfl rfl tw_372 tw_373 tw_374 (by decide +kernel) rfl) ?_
  refine am_all.c (s_aload_n (kf := 0) (by decide +kernel) rfl rfl) ?_
  refine am_all.c (s_get (C := cn_V) (Tf := ft_V) (N := 6) rfl fi_V (by decide) tw_176 (by decide +kernel) rfl) ?_
  refine am_all.c (s_aload_n (kf := 0) (by decide +kernel) rfl rfl) ?_
  refine am_all.c (s_get (C := cn_V) (Tf := ft_V) (N := 6) rfl fi_V (by decide) tw_175 (by decide +kernel) rfl) ?_
  refine am_all.c (s_iload_n (kf := 1) (by decide +kernel) rfl rfl) ?_
  refine am_all.c (s_aald rfl (by decide +kernel) rfl) ?_
  refine am_all.c (s_callV (q := (cn_S, ft_S, 9)) (by decide) (ce_S_mailboxNumber hN) rfl rfl tw_275 tw_276 tw_277 (by decide +kernel) rfl) ?_
  refine am_all.c (s_iload (by decide +kernel) rfl) ?_
  refine am_all.c (s_iload (by decide +kernel) rfl) ?_
  refine am_all.c (s_callV (q := (cn_J, ft_J, 7)) (by decide) (ce_J_noteFlagsSet hN) rfl rfl tw_376 tw_377 tw_378 (by decide +kernel) rfl) ?_
  refine am_all.c (s_aload_n (kf := 0) (by decide +kernel) rfl rfl) ?_
  refine am_all.c (s_get (C := cn_V) (Tf := ft_V) (N := 6) rfl fi_V (by decide) tw_175 (by decide +kernel) rfl) ?_
  refine am_all.c (s_iload_n (kf := 1) (by decide +kernel) rfl rfl) ?_
  refine am_all.c (s_aald rfl (by decide +kernel) rfl) ?_
  refine am_all.c (s_iload_n (kf := 2) (by decide +kernel) rfl rfl) ?_
  refine am_all.c (s_iload (by decide +kernel) rfl) ?_
  refine am_all.c (s_callV (q := (cn_S, ft_S, 9)) (by decide) (ce_S_know hN) rfl rfl tw_364 tw_347 tw_348 (by decide +kernel) rfl) ?_
  refine am_all.c (s_aload_n (kf := 0) (by decide +kernel) rfl rfl) ?_
  refine am_all.c (s_iload_n (kf := 1) (by decide +kernel) rfl rfl) ?_
  refine am_all.c (s_iconst (by decide +kernel) (by decide) rfl) ?_
  refine am_all.c (s_callV (q := (cn_V, ft_V, 6)) (by decide) (ce_V_update hN) rfl rfl tw_310 tw_312 tw_6 (by decide +kernel) rfl) ?_
  refine am_all.c (s_iload (by decide +kernel) rfl) ?_
  refine am_all.c (s_iret (by decide +kernel) rfl) ?_
  exact trivial
set_option maxRecDepth 20000 in
theorem ga_V_expunge {D : va_G} {dA : Nat → ClassId} {h b L : Nat} {xs : Nat → Int32} (hN : am_nN (am_En D dA h b L xs)) : am_all (am_En D dA h b L xs) mv_tb mv_P tV_expunge kV_expunge := by
  unfold kV_expunge
  refine am_all.c (s_aload_n (kf := 0) (by decide +kernel) rfl rfl) ?_
  refine am_all.c (s_iload_n (kf := 1) (by decide +kernel) rfl rfl) ?_
  refine am_all.c (s_callV (q := (cn_V, ft_V, 6)) (by decide) (ce_V_hasMailbox hN) rfl rfl tw_271 tw_273 tw_4 (by decide +kernel) rfl) ?_
  refine am_all.c (s_if_ne (off := 5) (by decide +kernel) (by decide) rfl) ?_
  refine am_all.c (s_iconst (by decide +kernel) (by decide) rfl) ?_
  refine am_all.c (s_iret (by decide +kernel) rfl) ?_
  refine am_all.c (s_aload_n (kf := 0) (by decide +kernel) rfl rfl) ?_
  refine am_all.c (s_get (C := cn_V) (Tf := ft_V) (N := 6) rfl fi_V (by decide) tw_175 (by decide +kernel) rfl) ?_
  refine am_all.c (s_iload_n (kf := 1) (by decide +kernel) rfl rfl) ?_
  refine am_all.c (s_aald rfl (by decide +kernel) rfl) ?_
  refine am_all.c (s_callV (q := (cn_S, ft_S, 9)) (by decide) (ce_S_isReadOnly hN) rfl rfl tw_279 tw_280 tw_281 (by decide +kernel) rfl) ?_
  refine am_all.c (s_if_eq (off := 6) (by decide +kernel) (by decide) rfl) ?_
  refine am_all.c (s_bipush (by decide +kernel) (by decide +kernel) (by decide) rfl) ?_
  refine am_all.c (s_iret (by decide +kernel) rfl) ?_
  refine am_all.c (s_aload_n (kf := 0) (by decide +kernel) rfl rfl) ?_
  refine am_all.c (s_aload_n (kf := 0) (by decide +kernel) rfl rfl) ?_
  refine am_all.c (s_get (C := cn_V) (Tf := ft_V) (N := 6) rfl fi_V (by decide) tw_175 (by decide +kernel) rfl) ?_
  refine am_all.c (s_iload_n (kf := 1) (by decide +kernel) rfl rfl) ?_
  refine am_all.c (s_aald rfl (by decide +kernel) rfl) ?_
  refine am_all.c (s_callV (q := (cn_S, ft_S, 9)) (by decide) (ce_S_mailboxNumber hN) rfl rfl tw_275 tw_276 tw_277 (by decide +kernel) rfl) ?_
  refine am_all.c (s_callV (q := (cn_V, ft_V, 6)) (by decide) (ce_V_removeDeleted hN) rfl rfl tw_283 tw_285 tw_5 (by decide +kernel) rfl) ?_
  refine am_all.c (s_istore_n (kf := 2) (by decide +kernel) rfl rfl) ?_
  refine am_all.c (s_aload_n (kf := 0) (by decide +kernel) rfl rfl) ?_
  refine am_all.c (s_iload_n (kf := 1) (by decide +kernel) rfl rfl) ?_
  refine am_all.c (s_iconst (by decide +kernel) (by decide) rfl) ?_
  refine am_all.c (s_callV (q := (cn_V, ft_V, 6)) (by decide) (ce_V_update hN) rfl rfl tw_310 tw_312 tw_6 (by decide +kernel) rfl) ?_
  refine am_all.c (s_iload_n (kf := 2) (by decide +kernel) rfl rfl) ?_
  refine am_all.c (s_iret (by decide +kernel) rfl) ?_
  exact trivial
set_option maxRecDepth 20000 in
theorem ga_V_copy {D : va_G} {dA : Nat → ClassId} {h b L : Nat} {xs : Nat → Int32} (hN : am_nN (am_En D dA h b L xs)) : am_all (am_En D dA h b L xs) mv_tb mv_P tV_copy kV_copy := by
  unfold kV_copy
  refine am_all.c (s_iload_n (kf := 3) (by decide +kernel) rfl rfl) ?_
  refine am_all.c (s_callS (by decide) (ce_V_isMailbox hN) tw_197 tw_198 (by decide +kernel) rfl) ?_
  refine am_all.c (s_if_eq (off := 12) (by decide +kernel) (by decide) rfl) ?_
  refine am_all.c (s_aload_n (kf := 0) (by decide +kernel) rfl rfl) ?_
  refine am_all.c (s_iload_n (kf := 1) (by decide +kernel) rfl rfl) ?_
  refine am_all.c (s_iload_n (kf := 2) (by decide +kernel) rfl rfl) ?_
  refine am_all.c (s_callV (q := (cn_V, ft_V, 6)) (by decide) (ce_V_isInView hN) rfl rfl tw_358 tw_360 tw_11 (by decide +kernel) rfl) ?_
  refine am_all.c (s_if_ne (off := 5) (by decide +kernel) (by decide) rfl) ?_
  refine am_all.c (s_iconst (by decide +kernel) (by decide) rfl) ?_
  refine am_all.c (s_iret (by decide +kernel) rfl) ?_
  refine am_all.c (s_aload_n (kf := 0) (by decide +kernel) rfl rfl) ?_
  refine am_all.c (s_iload_n (kf := 1) (by decide +kernel) rfl rfl) ?_
  refine am_all.c (s_callV (q := (cn_V, ft_V, 6)) (by decide) (ce_V_mailboxOf hN) rfl rfl tw_314 tw_316 tw_7 (by decide +kernel) rfl) ?_
  refine am_all.c (s_astore (by decide +kernel) rfl) ?_
  refine am_all.c (s_aload (by decide +kernel) rfl) ?_
  refine am_all.c (s_aload_n (kf := 0) (by decide +kernel) rfl rfl) ?_
  refine am_all.c (s_get (C := cn_V) (Tf := ft_V) (N := 6) rfl fi_V (by decide) tw_175 (by decide +kernel) rfl) ?_
  refine am_all.c (s_iload_n (kf := 1) (by decide +kernel) rfl rfl) ?_
  refine am_all.c (s_aald rfl (by decide +kernel) rfl) ?_
  refine am_all.c (s_iload_n (kf := 2) (by decide +kernel) rfl rfl) ?_
  refine am_all.c (s_callV (q := (cn_S, ft_S, 9)) (by decide) (ce_S_uidOf hN) rfl rfl tw_362 tw_339 tw_340 (by decide +kernel) rfl) ?_
  refine am_all.c (s_callV (q := (cn_B, ft_B, 6)) (by decide) (ce_B_positionOf hN) rfl rfl tw_363 tw_327 tw_328 (by decide +kernel) rfl) ?_
  refine am_all.c (s_istore (by decide +kernel) rfl) ?_
  refine am_all.c (s_iload (by decide +kernel) rfl) ?_
  refine am_all.c (s_iconst (by decide +kernel) (by decide) rfl) ?_
  refine am_all.c (s_icmp_ne (off := 6) (by decide +kernel) (by decide) rfl) ?_
  refine am_all.c (s_bipush (by decide +kernel) (by decide +kernel) (by decide) rfl) ?_
  refine am_all.c (s_iret (by decide +kernel) rfl) ?_
  refine am_all.c (s_aload_n (kf := 0) (by decide +kernel) rfl rfl) ?_
  refine am_all.c (s_iload_n (kf := 3) (by decide +kernel) rfl rfl) ?_
  refine am_all.c (s_aload (by decide +kernel) rfl) ?_
  refine am_all.c (s_iload (by decide +kernel) rfl) ?_
  refine am_all.c (s_callV (q := (cn_B, ft_B, 6)) (by decide) (ce_B_flagsAt hN) rfl rfl tw_288 tw_260 tw_261 (by decide +kernel) rfl) ?_
  refine am_all.c (s_aload (by decide +kernel) rfl) ?_
  refine am_all.c (s_iload (by decide +kernel) rfl) ?_
  refine am_all.c (s_callV (q := (cn_B, ft_B, 6)) (by decide) (ce_B_sizeAt hN) rfl rfl tw_290 tw_291 tw_292 (by decide +kernel) rfl) ?_
  refine am_all.c (s_callV (q := (cn_V, ft_V, 6)) (by decide) (ce_V_add hN) rfl rfl tw_203 tw_205 tw_0 (by decide +kernel) rfl) ?_
  refine am_all.c (s_istore (by decide +kernel) rfl) ?_
  refine am_all.c (s_iload (by decide +kernel) rfl) ?_
  refine am_all.c (s_bipush (by decide +kernel) (by decide +kernel) (by decide) rfl) ?_
  refine am_all.c (s_icmp_ne (off := 6) (by decide +kernel) (by decide) rfl) ?_
  refine am_all.c (s_bipush (by decide +kernel) (by decide +kernel) (by decide) rfl) ?_
  refine am_all.c (s_iret (by decide +kernel) rfl) ?_
  refine am_all.c (s_aload_n (kf := 0) (by decide +kernel) rfl rfl) ?_
  refine am_all.c (s_iload_n (kf := 1) (by decide +kernel) rfl rfl) ?_
  refine am_all.c (s_iconst (by decide +kernel) (by decide) rfl) ?_
  refine am_all.c (s_callV (q := (cn_V, ft_V, 6)) (by decide) (ce_V_update hN) rfl rfl tw_310 tw_312 tw_6 (by decide +kernel) rfl) ?_
  refine am_all.c (s_iload (by decide +kernel) rfl) ?_
  refine am_all.c (s_iret (by decide +kernel) rfl) ?_
  exact trivial
set_option maxRecDepth 20000 in
theorem ga_V_criterion {D : va_G} {dA : Nat → ClassId} {h b L : Nat} {xs : Nat → Int32} (hN : am_nN (am_En D dA h b L xs)) : am_all (am_En D dA h b L xs) mv_tb mv_P tV_criterion kV_criterion := by
  unfold kV_criterion
  refine am_all.c (s_iload_n (kf := 1) (by decide +kernel) rfl rfl) ?_
  refine am_all.c (s_callS (by decide) (ce_C_isOp hN) tw_392 tw_393 (by decide +kernel) rfl) ?_
  refine am_all.c (s_if_ne (off := 5) (by decide +kernel) (by decide) rfl) ?_
  refine am_all.c (s_iconst (by decide +kernel) (by decide) rfl) ?_
  refine am_all.c (s_iret (by decide +kernel) rfl) ?_
  refine am_all.c (s_aload_n (kf := 0) (by decide +kernel) rfl rfl) ?_
  refine am_all.c (s_get (C := cn_V) (Tf := ft_V) (N := 6) rfl fi_V (by decide) tw_177 (by decide +kernel) rfl) ?_
  refine am_all.c (s_callV (q := (cn_C, ft_C, 7)) (by decide) (ce_C_isFull hN) rfl rfl tw_395 tw_396 tw_397 (by decide +kernel) rfl) ?_
  refine am_all.c (s_if_eq (off := 6) (by decide +kernel) (by decide) rfl) ?_
  refine am_all.c (s_bipush (by decide +kernel) (by decide +kernel) (by decide) rfl) ?_
  refine am_all.c (s_iret (by decide +kernel) rfl) ?_
  refine am_all.c (s_aload_n (kf := 0) (by decide +kernel) rfl rfl) ?_
  refine am_all.c (s_get (C := cn_V) (Tf := ft_V) (N := 6) rfl fi_V (by decide) tw_177 (by decide +kernel) rfl) ?_
  refine am_all.c (s_iload_n (kf := 1) (by decide +kernel) rfl rfl) ?_
  refine am_all.c (s_iload_n (kf := 2) (by decide +kernel) rfl rfl) ?_
  refine am_all.c (s_iload_n (kf := 3) (by decide +kernel) rfl rfl) ?_
  refine am_all.c (s_callV (q := (cn_C, ft_C, 7)) (by decide) (ce_C_write hN) rfl rfl tw_399 tw_400 tw_401 (by decide +kernel) rfl) ?_
  refine am_all.c (s_aload_n (kf := 0) (by decide +kernel) rfl rfl) ?_
  refine am_all.c (s_get (C := cn_V) (Tf := ft_V) (N := 6) rfl fi_V (by decide) tw_177 (by decide +kernel) rfl) ?_
  refine am_all.c (s_callV (q := (cn_C, ft_C, 7)) (by decide) (ce_C_tokenCount hN) rfl rfl tw_403 tw_404 tw_405 (by decide +kernel) rfl) ?_
  refine am_all.c (s_iret (by decide +kernel) rfl) ?_
  exact trivial
set_option maxRecDepth 20000 in
theorem ga_V_search {D : va_G} {dA : Nat → ClassId} {h b L : Nat} {xs : Nat → Int32} (hN : am_nN (am_En D dA h b L xs)) : am_all (am_En D dA h b L xs) mv_tb mv_P tV_search kV_search := by
  unfold kV_search
  refine am_all.c (s_aload_n (kf := 0) (by decide +kernel) rfl rfl) ?_
  refine am_all.c (s_iload_n (kf := 1) (by decide +kernel) rfl rfl) ?_
  refine am_all.c (s_callV (q := (cn_V, ft_V, 6)) (by decide) (ce_V_hasMailbox hN) rfl rfl tw_271 tw_273 tw_4 (by decide +kernel) rfl) ?_
  refine am_all.c (s_if_ne (off := 5) (by decide +kernel) (by decide) rfl) ?_
  refine am_all.c (s_iconst (by decide +kernel) (by decide) rfl) ?_
  refine am_all.c (s_iret (by decide +kernel) rfl) ?_
  refine am_all.c (s_aload_n (kf := 0) (by decide +kernel) rfl rfl) ?_
  refine am_all.c (s_get (C := cn_V) (Tf := ft_V) (N := 6) rfl fi_V (by decide) tw_177 (by decide +kernel) rfl) ?_
  refine am_all.c (s_callV (q := (cn_C, ft_C, 7)) (by decide) (ce_C_isGood hN) rfl rfl tw_411 tw_412 tw_413 (by decide +kernel) rfl) ?_
  refine am_all.c (s_if_ne (off := 13) (by decide +kernel) (by decide) rfl) ?_
  refine am_all.c (s_aload_n (kf := 0) (by decide +kernel) rfl rfl) ?_
  refine am_all.c (s_get (C := cn_V) (Tf := ft_V) (N := 6) rfl fi_V (by decide) tw_177 (by decide +kernel) rfl) ?_
  refine am_all.c (s_callV (q := (cn_C, ft_C, 7)) (by decide) (ce_C_wipe hN) rfl rfl tw_430 tw_431 tw_432 (by decide +kernel) rfl) ?_
  refine am_all.c (s_bipush (by decide +kernel) (by decide +kernel) (by decide) rfl) ?_
  refine am_all.c (s_iret (by decide +kernel) rfl) ?_
  refine am_all.c (s_aload_n (kf := 0) (by decide +kernel) rfl rfl) ?_
  refine am_all.c (s_aload_n (kf := 0) (by decide +kernel) rfl rfl) ?_
  refine am_all.c (s_get (C := cn_V) (Tf := ft_V) (N := 6) rfl fi_V (by decide) tw_175 (by decide +kernel) rfl) ?_
  refine am_all.c (s_iload_n (kf := 1) (by decide +kernel) rfl rfl) ?_
  refine am_all.c (s_aald rfl (by decide +kernel) rfl) ?_
  refine am_all.c (s_aload_n (kf := 0) (by decide +kernel) rfl rfl) ?_
  refine am_all.c (s_iload_n (kf := 1) (by decide +kernel) rfl rfl) ?_
  refine am_all.c (s_callV (q := (cn_V, ft_V, 6)) (by decide) (ce_V_mailboxOf hN) rfl rfl tw_314 tw_316 tw_7 (by decide +kernel) rfl) ?_
  refine am_all.c (s_callV (q := (cn_V, ft_V, 6)) (by decide) (ce_V_findHits hN) rfl rfl tw_434 tw_436 tw_15 (by decide +kernel) rfl) ?_
  refine am_all.c (s_aload_n (kf := 0) (by decide +kernel) rfl rfl) ?_
  refine am_all.c (s_get (C := cn_V) (Tf := ft_V) (N := 6) rfl fi_V (by decide) tw_177 (by decide +kernel) rfl) ?_
  refine am_all.c (s_callV (q := (cn_C, ft_C, 7)) (by decide) (ce_C_wipe hN) rfl rfl tw_430 tw_431 tw_432 (by decide +kernel) rfl) ?_
  refine am_all.c (s_aload_n (kf := 0) (by decide +kernel) rfl rfl) ?_
  refine am_all.c (s_iload_n (kf := 1) (by decide +kernel) rfl rfl) ?_
  refine am_all.c (s_iconst (by decide +kernel) (by decide) rfl) ?_
  refine am_all.c (s_callV (q := (cn_V, ft_V, 6)) (by decide) (ce_V_update hN) rfl rfl tw_310 tw_312 tw_6 (by decide +kernel) rfl) ?_
  refine am_all.c (s_aload_n (kf := 0) (by decide +kernel) rfl rfl) ?_
  refine am_all.c (s_get (C := cn_V) (Tf := ft_V) (N := 6) rfl fi_V (by decide) tw_179 (by decide +kernel) rfl) ?_
  refine am_all.c (s_iret (by decide +kernel) rfl) ?_
  exact trivial
set_option maxRecDepth 20000 in
theorem ga_V_found {D : va_G} {dA : Nat → ClassId} {h b L : Nat} {xs : Nat → Int32} (hN : am_nN (am_En D dA h b L xs)) : am_all (am_En D dA h b L xs) mv_tb mv_P tV_found kV_found := by
  unfold kV_found
  refine am_all.c (s_iload_n (kf := 1) (by decide +kernel) rfl rfl) ?_
  refine am_all.c (s_if_lt (off := 20) (by decide +kernel) (by decide) rfl) ?_
  refine am_all.c (s_iload_n (kf := 1) (by decide +kernel) rfl rfl) ?_
  refine am_all.c (s_aload_n (kf := 0) (by decide +kernel) rfl rfl) ?_
  refine am_all.c (s_get (C := cn_V) (Tf := ft_V) (N := 6) rfl fi_V (by decide) tw_179 (by decide +kernel) rfl) ?_
  refine am_all.c (s_icmp_ge (off := 12) (by decide +kernel) (by decide) rfl) ?_
  refine am_all.c (s_aload_n (kf := 0) (by decide +kernel) rfl rfl) ?_
  refine am_all.c (s_get (C := cn_V) (Tf := ft_V) (N := 6) rfl fi_V (by decide) tw_178 (by decide +kernel) rfl) ?_
  refine am_all.c (s_iload_n (kf := 1) (by decide +kernel) rfl rfl) ?_
  refine am_all.c (s_iald rfl (by decide +kernel) rfl) ?_
  refine am_all.c (s_goto (off := 4) (by decide +kernel) (by decide)) ?_
  refine am_all.c (s_iconst (by decide +kernel) (by decide) rfl) ?_
  refine am_all.c (s_iret (by decide +kernel) rfl) ?_
  exact trivial
set_option maxRecDepth 20000 in
theorem ga_V_sync {D : va_G} {dA : Nat → ClassId} {h b L : Nat} {xs : Nat → Int32} (hN : am_nN (am_En D dA h b L xs)) : am_all (am_En D dA h b L xs) mv_tb mv_P tV_sync kV_sync := by
  unfold kV_sync
  refine am_all.c (s_aload_n (kf := 0) (by decide +kernel) rfl rfl) ?_
  refine am_all.c (s_get (C := cn_V) (Tf := ft_V) (N := 6) rfl fi_V (by decide) tw_176 (by decide +kernel) rfl) ?_
  refine am_all.c (s_callV (q := (cn_J, ft_J, 7)) (by decide) (ce_J_makeAllDurable hN) rfl rfl tw_465 tw_233 tw_234 (by decide +kernel) rfl) ?_
  refine am_all.c (s_aload_n (kf := 0) (by decide +kernel) rfl rfl) ?_
  refine am_all.c (s_get (C := cn_V) (Tf := ft_V) (N := 6) rfl fi_V (by decide) tw_176 (by decide +kernel) rfl) ?_
  refine am_all.c (s_callV (q := (cn_J, ft_J, 7)) (by decide) (ce_J_changeCount hN) rfl rfl tw_466 tw_467 tw_468 (by decide +kernel) rfl) ?_
  refine am_all.c (s_iret (by decide +kernel) rfl) ?_
  exact trivial
set_option maxRecDepth 20000 in
theorem ga_V_crash {D : va_G} {dA : Nat → ClassId} {h b L : Nat} {xs : Nat → Int32} (hN : am_nN (am_En D dA h b L xs)) : am_all (am_En D dA h b L xs) mv_tb mv_P tV_crash kV_crash := by
  unfold kV_crash
  refine am_all.c (s_iconst (by decide +kernel) (by decide) rfl) ?_
  refine am_all.c (s_istore_n (kf := 1) (by decide +kernel) rfl rfl) ?_
  refine am_all.c (s_iload_n (kf := 1) (by decide +kernel) rfl rfl) ?_
  refine am_all.c (s_iconst (by decide +kernel) (by decide) rfl) ?_
  refine am_all.c (s_icmp_ge (off := 18) (by decide +kernel) (by decide) rfl) ?_
  refine am_all.c (s_aload_n (kf := 0) (by decide +kernel) rfl rfl) ?_
  refine am_all.c (s_get (C := cn_V) (Tf := ft_V) (N := 6) rfl fi_V (by decide) tw_175 (by decide +kernel) rfl) ?_
  refine am_all.c (s_iload_n (kf := 1) (by decide +kernel) rfl rfl) ?_
  refine am_all.c (s_aald rfl (by decide +kernel) rfl) ?_
  refine am_all.c (s_callV (q := (cn_S, ft_S, 9)) (by decide) (ce_S_leave hN) rfl rfl tw_302 tw_303 tw_304 (by decide +kernel) rfl) ?_
  refine am_all.c (s_iinc (by decide +kernel) rfl) ?_
  refine am_all.c (s_goto (off := -17) (by decide +kernel) (by decide)) ?_
  refine am_all.c (s_iconst (by decide +kernel) (by decide) rfl) ?_
  refine am_all.c (s_istore_n (kf := 1) (by decide +kernel) rfl rfl) ?_
  refine am_all.c (s_iload_n (kf := 1) (by decide +kernel) rfl rfl) ?_
  refine am_all.c (s_iconst (by decide +kernel) (by decide) rfl) ?_
  refine am_all.c (s_icmp_ge (off := 29) (by decide +kernel) (by decide) rfl) ?_
  refine am_all.c (s_aload_n (kf := 0) (by decide +kernel) rfl rfl) ?_
  refine am_all.c (s_get (C := cn_V) (Tf := ft_V) (N := 6) rfl fi_V (by decide) tw_176 (by decide +kernel) rfl) ?_
  refine am_all.c (s_iload_n (kf := 1) (by decide +kernel) rfl rfl) ?_
  refine am_all.c (s_callV (q := (cn_J, ft_J, 7)) (by decide) (ce_J_hasOpenAdditionTo hN) rfl rfl tw_474 tw_475 tw_476 (by decide +kernel) rfl) ?_
  refine am_all.c (s_if_eq (off := 12) (by decide +kernel) (by decide) rfl) ?_
  refine am_all.c (s_aload_n (kf := 0) (by decide +kernel) rfl rfl) ?_
  refine am_all.c (s_get (C := cn_V) (Tf := ft_V) (N := 6) rfl fi_V (by decide) tw_174 (by decide +kernel) rfl) ?_
  refine am_all.c (s_iload_n (kf := 1) (by decide +kernel) rfl rfl) ?_
  refine am_all.c (s_aald rfl (by decide +kernel) rfl) ?_
  refine am_all.c (s_callV (q := (cn_B, ft_B, 6)) (by decide) (ce_B_growValidity hN) rfl rfl tw_478 tw_479 tw_480 (by decide +kernel) rfl) ?_
  refine am_all.c (s_iinc (by decide +kernel) rfl) ?_
  refine am_all.c (s_goto (off := -28) (by decide +kernel) (by decide)) ?_
  refine am_all.c (s_aload_n (kf := 0) (by decide +kernel) rfl rfl) ?_
  refine am_all.c (s_get (C := cn_V) (Tf := ft_V) (N := 6) rfl fi_V (by decide) tw_176 (by decide +kernel) rfl) ?_
  refine am_all.c (s_aload_n (kf := 0) (by decide +kernel) rfl rfl) ?_
  refine am_all.c (s_get (C := cn_V) (Tf := ft_V) (N := 6) rfl fi_V (by decide) tw_174 (by decide +kernel) rfl) ?_
  refine am_all.c (s_callV (q := (cn_J, ft_J, 7)) (by decide) (ce_J_takeBackAll hN) rfl rfl tw_482 tw_483 tw_484 (by decide +kernel) rfl) ?_
  refine am_all.c (s_aload_n (kf := 0) (by decide +kernel) rfl rfl) ?_
  refine am_all.c (s_get (C := cn_V) (Tf := ft_V) (N := 6) rfl fi_V (by decide) tw_176 (by decide +kernel) rfl) ?_
  refine am_all.c (s_callV (q := (cn_J, ft_J, 7)) (by decide) (ce_J_changeCount hN) rfl rfl tw_466 tw_467 tw_468 (by decide +kernel) rfl) ?_
  refine am_all.c (s_iret (by decide +kernel) rfl) ?_
  exact trivial
set_option maxRecDepth 20000 in
theorem ga_V_message {D : va_G} {dA : Nat → ClassId} {h b L : Nat} {xs : Nat → Int32} (hN : am_nN (am_En D dA h b L xs)) : am_all (am_En D dA h b L xs) mv_tb mv_P tV_message kV_message := by
  unfold kV_message
  refine am_all.c (s_iload_n (kf := 1) (by decide +kernel) rfl rfl) ?_
  refine am_all.c (s_callS (by decide) (ce_V_isMailbox hN) tw_197 tw_198 (by decide +kernel) rfl) ?_
  refine am_all.c (s_if_eq (off := 20) (by decide +kernel) (by decide) rfl) ?_
  refine am_all.c (s_iload_n (kf := 2) (by decide +kernel) rfl rfl) ?_
  refine am_all.c (s_if_lt (off := 16) (by decide +kernel) (by decide) rfl) ?_
  refine am_all.c (s_iload_n (kf := 2) (by decide +kernel) rfl rfl) ?_
  refine am_all.c (s_aload_n (kf := 0) (by decide +kernel) rfl rfl) ?_
  refine am_all.c (s_get (C := cn_V) (Tf := ft_V) (N := 6) rfl fi_V (by decide) tw_174 (by decide +kernel) rfl) ?_
  refine am_all.c (s_iload_n (kf := 1) (by decide +kernel) rfl rfl) ?_
  refine am_all.c (s_aald rfl (by decide +kernel) rfl) ?_
  refine am_all.c (s_callV (q := (cn_B, ft_B, 6)) (by decide) (ce_B_messageCount hN) rfl rfl tw_287 tw_252 tw_253 (by decide +kernel) rfl) ?_
  refine am_all.c (s_icmp_lt (off := 5) (by decide +kernel) (by decide) rfl) ?_
  refine am_all.c (s_iconst (by decide +kernel) (by decide) rfl) ?_
  refine am_all.c (s_iret (by decide +kernel) rfl) ?_
  refine am_all.c (s_iload_n (kf := 3) (by decide +kernel) rfl rfl) ?_
  refine am_all.c (s_tsw (dflt := 58) (lo := 0) (hi := 2) (offs := #[25, 36, 47]) (len := 25) (by decide +kernel) (by decide) (by decide) (am_tsc (by decide))) ?_
  refine am_all.c (s_aload_n (kf := 0) (by decide +kernel) rfl rfl) ?_
  refine am_all.c (s_get (C := cn_V) (Tf := ft_V) (N := 6) rfl fi_V (by decide) tw_174 (by decide +kernel) rfl) ?_
  refine am_all.c (s_iload_n (kf := 1) (by decide +kernel) rfl rfl) ?_
  refine am_all.c (s_aald rfl (by decide +kernel) rfl) ?_
  refine am_all.c (s_iload_n (kf := 2) (by decide +kernel) rfl rfl) ?_
  refine am_all.c (s_callV (q := (cn_B, ft_B, 6)) (by decide) (ce_B_uidAt hN) rfl rfl tw_289 tw_256 tw_257 (by decide +kernel) rfl) ?_
  refine am_all.c (s_iret (by decide +kernel) rfl) ?_
  refine am_all.c (s_aload_n (kf := 0) (by decide +kernel) rfl rfl) ?_
  refine am_all.c (s_get (C := cn_V) (Tf := ft_V) (N := 6) rfl fi_V (by decide) tw_174 (by decide +kernel) rfl) ?_
  refine am_all.c (s_iload_n (kf := 1) (by decide +kernel) rfl rfl) ?_
  refine am_all.c (s_aald rfl (by decide +kernel) rfl) ?_
  refine am_all.c (s_iload_n (kf := 2) (by decide +kernel) rfl rfl) ?_
  refine am_all.c (s_callV (q := (cn_B, ft_B, 6)) (by decide) (ce_B_flagsAt hN) rfl rfl tw_288 tw_260 tw_261 (by decide +kernel) rfl) ?_
  refine am_all.c (s_iret (by decide +kernel) rfl) ?_
  refine am_all.c (s_aload_n (kf := 0) (by decide +kernel) rfl rfl) ?_
  refine am_all.c (s_get (C := cn_V) (Tf := ft_V) (N := 6) rfl fi_V (by decide) tw_174 (by decide +kernel) rfl) ?_
  refine am_all.c (s_iload_n (kf := 1) (by decide +kernel) rfl rfl) ?_
  refine am_all.c (s_aald rfl (by decide +kernel) rfl) ?_
  refine am_all.c (s_iload_n (kf := 2) (by decide +kernel) rfl rfl) ?_
  refine am_all.c (s_callV (q := (cn_B, ft_B, 6)) (by decide) (ce_B_sizeAt hN) rfl rfl tw_290 tw_291 tw_292 (by decide +kernel) rfl) ?_
  refine am_all.c (s_iret (by decide +kernel) rfl) ?_
  refine am_all.c (s_iconst (by decide +kernel) (by decide) rfl) ?_
  refine am_all.c (s_iret (by decide +kernel) rfl) ?_
  exact trivial
set_option maxRecDepth 20000 in
theorem ga_V_seen {D : va_G} {dA : Nat → ClassId} {h b L : Nat} {xs : Nat → Int32} (hN : am_nN (am_En D dA h b L xs)) : am_all (am_En D dA h b L xs) mv_tb mv_P tV_seen kV_seen := by
  unfold kV_seen
  refine am_all.c (s_aload_n (kf := 0) (by decide +kernel) rfl rfl) ?_
  refine am_all.c (s_iload_n (kf := 1) (by decide +kernel) rfl rfl) ?_
  refine am_all.c (s_iload_n (kf := 2) (by decide +kernel) rfl rfl) ?_
  refine am_all.c (s_callV (q := (cn_V, ft_V, 6)) (by decide) (ce_V_isInView hN) rfl rfl tw_358 tw_360 tw_11 (by decide +kernel) rfl) ?_
  refine am_all.c (s_if_ne (off := 5) (by decide +kernel) (by decide) rfl) ?_
  refine am_all.c (s_iconst (by decide +kernel) (by decide) rfl) ?_
  refine am_all.c (s_iret (by decide +kernel) rfl) ?_
  refine am_all.c (s_iload_n (kf := 3) (by decide +kernel) rfl rfl) ?_
  refine am_all.c (s_lsw (dflt := 50) (ps := #[(0, 28), (1, 39)]) (len := 28) (by decide +kernel) (by decide) (by decide) (by decide)) ?_
  refine am_all.c (s_aload_n (kf := 0) (by decide +kernel) rfl rfl) ?_
  refine am_all.c (s_get (C := cn_V) (Tf := ft_V) (N := 6) rfl fi_V (by decide) tw_175 (by decide +kernel) rfl) ?_
  refine am_all.c (s_iload_n (kf := 1) (by decide +kernel) rfl rfl) ?_
  refine am_all.c (s_aald rfl (by decide +kernel) rfl) ?_
  refine am_all.c (s_iload_n (kf := 2) (by decide +kernel) rfl rfl) ?_
  refine am_all.c (s_callV (q := (cn_S, ft_S, 9)) (by decide) (ce_S_uidOf hN) rfl rfl tw_362 tw_339 tw_340 (by decide +kernel) rfl) ?_
  refine am_all.c (s_iret (by decide +kernel) rfl) ?_
  refine am_all.c (s_aload_n (kf := 0) (by decide +kernel) rfl rfl) ?_
  refine am_all.c (s_get (C := cn_V) (Tf := ft_V) (N := 6) rfl fi_V (by decide) tw_175 (by decide +kernel) rfl) ?_
  refine am_all.c (s_iload_n (kf := 1) (by decide +kernel) rfl rfl) ?_
  refine am_all.c (s_aald rfl (by decide +kernel) rfl) ?_
  refine am_all.c (s_iload_n (kf := 2) (by decide +kernel) rfl rfl) ?_
  refine am_all.c (s_callV (q := (cn_S, ft_S, 9)) (by decide) (ce_S_knownFlagsOf hN) rfl rfl tw_509 tw_343 tw_344 (by decide +kernel) rfl) ?_
  refine am_all.c (s_iret (by decide +kernel) rfl) ?_
  refine am_all.c (s_iconst (by decide +kernel) (by decide) rfl) ?_
  refine am_all.c (s_iret (by decide +kernel) rfl) ?_
  exact trivial
set_option maxRecDepth 20000 in
theorem ga_V_notice {D : va_G} {dA : Nat → ClassId} {h b L : Nat} {xs : Nat → Int32} (hN : am_nN (am_En D dA h b L xs)) : am_all (am_En D dA h b L xs) mv_tb mv_P tV_notice kV_notice := by
  unfold kV_notice
  refine am_all.c (s_aload_n (kf := 0) (by decide +kernel) rfl rfl) ?_
  refine am_all.c (s_iload_n (kf := 1) (by decide +kernel) rfl rfl) ?_
  refine am_all.c (s_callV (q := (cn_V, ft_V, 6)) (by decide) (ce_V_hasMailbox hN) rfl rfl tw_271 tw_273 tw_4 (by decide +kernel) rfl) ?_
  refine am_all.c (s_if_eq (off := 20) (by decide +kernel) (by decide) rfl) ?_
  refine am_all.c (s_iload_n (kf := 2) (by decide +kernel) rfl rfl) ?_
  refine am_all.c (s_if_lt (off := 16) (by decide +kernel) (by decide) rfl) ?_
  refine am_all.c (s_iload_n (kf := 2) (by decide +kernel) rfl rfl) ?_
  refine am_all.c (s_aload_n (kf := 0) (by decide +kernel) rfl rfl) ?_
  refine am_all.c (s_get (C := cn_V) (Tf := ft_V) (N := 6) rfl fi_V (by decide) tw_175 (by decide +kernel) rfl) ?_
  refine am_all.c (s_iload_n (kf := 1) (by decide +kernel) rfl rfl) ?_
  refine am_all.c (s_aald rfl (by decide +kernel) rfl) ?_
  refine am_all.c (s_callV (q := (cn_S, ft_S, 9)) (by decide) (ce_S_noticeCount hN) rfl rfl tw_350 tw_351 tw_352 (by decide +kernel) rfl) ?_
  refine am_all.c (s_icmp_lt (off := 5) (by decide +kernel) (by decide) rfl) ?_
  refine am_all.c (s_iconst (by decide +kernel) (by decide) rfl) ?_
  refine am_all.c (s_iret (by decide +kernel) rfl) ?_
  refine am_all.c (s_iload_n (kf := 3) (by decide +kernel) rfl rfl) ?_
  refine am_all.c (s_lsw (dflt := 50) (ps := #[(0, 28), (1, 39)]) (len := 28) (by decide +kernel) (by decide) (by decide) (by decide)) ?_
  refine am_all.c (s_aload_n (kf := 0) (by decide +kernel) rfl rfl) ?_
  refine am_all.c (s_get (C := cn_V) (Tf := ft_V) (N := 6) rfl fi_V (by decide) tw_175 (by decide +kernel) rfl) ?_
  refine am_all.c (s_iload_n (kf := 1) (by decide +kernel) rfl rfl) ?_
  refine am_all.c (s_aald rfl (by decide +kernel) rfl) ?_
  refine am_all.c (s_iload_n (kf := 2) (by decide +kernel) rfl rfl) ?_
  refine am_all.c (s_callV (q := (cn_S, ft_S, 9)) (by decide) (ce_S_noticeKindAt hN) rfl rfl tw_514 tw_515 tw_516 (by decide +kernel) rfl) ?_
  refine am_all.c (s_iret (by decide +kernel) rfl) ?_
  refine am_all.c (s_aload_n (kf := 0) (by decide +kernel) rfl rfl) ?_
  refine am_all.c (s_get (C := cn_V) (Tf := ft_V) (N := 6) rfl fi_V (by decide) tw_175 (by decide +kernel) rfl) ?_
  refine am_all.c (s_iload_n (kf := 1) (by decide +kernel) rfl rfl) ?_
  refine am_all.c (s_aald rfl (by decide +kernel) rfl) ?_
  refine am_all.c (s_iload_n (kf := 2) (by decide +kernel) rfl rfl) ?_
  refine am_all.c (s_callV (q := (cn_S, ft_S, 9)) (by decide) (ce_S_noticeNumberAt hN) rfl rfl tw_518 tw_519 tw_520 (by decide +kernel) rfl) ?_
  refine am_all.c (s_iret (by decide +kernel) rfl) ?_
  refine am_all.c (s_iconst (by decide +kernel) (by decide) rfl) ?_
  refine am_all.c (s_iret (by decide +kernel) rfl) ?_
  exact trivial
set_option maxRecDepth 20000 in
theorem ga_V_mailbox {D : va_G} {dA : Nat → ClassId} {h b L : Nat} {xs : Nat → Int32} (hN : am_nN (am_En D dA h b L xs)) : am_all (am_En D dA h b L xs) mv_tb mv_P tV_mailbox kV_mailbox := by
  unfold kV_mailbox
  refine am_all.c (s_iload_n (kf := 1) (by decide +kernel) rfl rfl) ?_
  refine am_all.c (s_callS (by decide) (ce_V_isMailbox hN) tw_197 tw_198 (by decide +kernel) rfl) ?_
  refine am_all.c (s_if_ne (off := 5) (by decide +kernel) (by decide) rfl) ?_
  refine am_all.c (s_iconst (by decide +kernel) (by decide) rfl) ?_
  refine am_all.c (s_iret (by decide +kernel) rfl) ?_
  refine am_all.c (s_iload_n (kf := 2) (by decide +kernel) rfl rfl) ?_
  refine am_all.c (s_tsw (dflt := 66) (lo := 0) (hi := 3) (offs := #[30, 40, 50, 60]) (len := 30) (by decide +kernel) (by decide) (by decide) (am_tsc (by decide))) ?_
  refine am_all.c (s_aload_n (kf := 0) (by decide +kernel) rfl rfl) ?_
  refine am_all.c (s_get (C := cn_V) (Tf := ft_V) (N := 6) rfl fi_V (by decide) tw_174 (by decide +kernel) rfl) ?_
  refine am_all.c (s_iload_n (kf := 1) (by decide +kernel) rfl rfl) ?_
  refine am_all.c (s_aald rfl (by decide +kernel) rfl) ?_
  refine am_all.c (s_callV (q := (cn_B, ft_B, 6)) (by decide) (ce_B_messageCount hN) rfl rfl tw_287 tw_252 tw_253 (by decide +kernel) rfl) ?_
  refine am_all.c (s_iret (by decide +kernel) rfl) ?_
  refine am_all.c (s_aload_n (kf := 0) (by decide +kernel) rfl rfl) ?_
  refine am_all.c (s_get (C := cn_V) (Tf := ft_V) (N := 6) rfl fi_V (by decide) tw_174 (by decide +kernel) rfl) ?_
  refine am_all.c (s_iload_n (kf := 1) (by decide +kernel) rfl rfl) ?_
  refine am_all.c (s_aald rfl (by decide +kernel) rfl) ?_
  refine am_all.c (s_callV (q := (cn_B, ft_B, 6)) (by decide) (ce_B_nextUid hN) rfl rfl tw_526 tw_527 tw_528 (by decide +kernel) rfl) ?_
  refine am_all.c (s_iret (by decide +kernel) rfl) ?_
  refine am_all.c (s_aload_n (kf := 0) (by decide +kernel) rfl rfl) ?_
  refine am_all.c (s_get (C := cn_V) (Tf := ft_V) (N := 6) rfl fi_V (by decide) tw_174 (by decide +kernel) rfl) ?_
  refine am_all.c (s_iload_n (kf := 1) (by decide +kernel) rfl rfl) ?_
  refine am_all.c (s_aald rfl (by decide +kernel) rfl) ?_
  refine am_all.c (s_callV (q := (cn_B, ft_B, 6)) (by decide) (ce_B_validity hN) rfl rfl tw_530 tw_531 tw_532 (by decide +kernel) rfl) ?_
  refine am_all.c (s_iret (by decide +kernel) rfl) ?_
  refine am_all.c (s_aload_n (kf := 0) (by decide +kernel) rfl rfl) ?_
  refine am_all.c (s_iload_n (kf := 1) (by decide +kernel) rfl rfl) ?_
  refine am_all.c (s_callV (q := (cn_V, ft_V, 6)) (by decide) (ce_V_sessionsWith hN) rfl rfl tw_534 tw_536 tw_20 (by decide +kernel) rfl) ?_
  refine am_all.c (s_iret (by decide +kernel) rfl) ?_
  refine am_all.c (s_iconst (by decide +kernel) (by decide) rfl) ?_
  refine am_all.c (s_iret (by decide +kernel) rfl) ?_
  exact trivial
set_option maxRecDepth 20000 in
theorem ga_V_count {D : va_G} {dA : Nat → ClassId} {h b L : Nat} {xs : Nat → Int32} (hN : am_nN (am_En D dA h b L xs)) : am_all (am_En D dA h b L xs) mv_tb mv_P tV_count kV_count := by
  unfold kV_count
  refine am_all.c (s_iload_n (kf := 1) (by decide +kernel) rfl rfl) ?_
  refine am_all.c (s_tsw (dflt := 60) (lo := 0) (hi := 3) (offs := #[31, 39, 47, 55]) (len := 31) (by decide +kernel) (by decide) (by decide) (am_tsc (by decide))) ?_
  refine am_all.c (s_aload_n (kf := 0) (by decide +kernel) rfl rfl) ?_
  refine am_all.c (s_get (C := cn_V) (Tf := ft_V) (N := 6) rfl fi_V (by decide) tw_176 (by decide +kernel) rfl) ?_
  refine am_all.c (s_callV (q := (cn_J, ft_J, 7)) (by decide) (ce_J_changeCount hN) rfl rfl tw_466 tw_467 tw_468 (by decide +kernel) rfl) ?_
  refine am_all.c (s_iret (by decide +kernel) rfl) ?_
  refine am_all.c (s_aload_n (kf := 0) (by decide +kernel) rfl rfl) ?_
  refine am_all.c (s_get (C := cn_V) (Tf := ft_V) (N := 6) rfl fi_V (by decide) tw_176 (by decide +kernel) rfl) ?_
  refine am_all.c (s_callV (q := (cn_J, ft_J, 7)) (by decide) (ce_J_durableCount hN) rfl rfl tw_542 tw_543 tw_544 (by decide +kernel) rfl) ?_
  refine am_all.c (s_iret (by decide +kernel) rfl) ?_
  refine am_all.c (s_aload_n (kf := 0) (by decide +kernel) rfl rfl) ?_
  refine am_all.c (s_get (C := cn_V) (Tf := ft_V) (N := 6) rfl fi_V (by decide) tw_177 (by decide +kernel) rfl) ?_
  refine am_all.c (s_callV (q := (cn_C, ft_C, 7)) (by decide) (ce_C_tokenCount hN) rfl rfl tw_403 tw_404 tw_405 (by decide +kernel) rfl) ?_
  refine am_all.c (s_iret (by decide +kernel) rfl) ?_
  refine am_all.c (s_aload_n (kf := 0) (by decide +kernel) rfl rfl) ?_
  refine am_all.c (s_get (C := cn_V) (Tf := ft_V) (N := 6) rfl fi_V (by decide) tw_179 (by decide +kernel) rfl) ?_
  refine am_all.c (s_iret (by decide +kernel) rfl) ?_
  refine am_all.c (s_iconst (by decide +kernel) (by decide) rfl) ?_
  refine am_all.c (s_iret (by decide +kernel) rfl) ?_
  exact trivial
set_option maxRecDepth 20000 in
theorem ga_V_isMailbox {D : va_G} {dA : Nat → ClassId} {h b L : Nat} {xs : Nat → Int32} (hN : am_nN (am_En D dA h b L xs)) : am_all (am_En D dA h b L xs) mv_tb mv_P tV_isMailbox kV_isMailbox := by
  unfold kV_isMailbox
  refine am_all.c (s_iload_n (kf := 0) (by decide +kernel) rfl rfl) ?_
  refine am_all.c (s_if_lt (off := 12) (by decide +kernel) (by decide) rfl) ?_
  refine am_all.c (s_iload_n (kf := 0) (by decide +kernel) rfl rfl) ?_
  refine am_all.c (s_iconst (by decide +kernel) (by decide) rfl) ?_
  refine am_all.c (s_icmp_ge (off := 7) (by decide +kernel) (by decide) rfl) ?_
  refine am_all.c (s_iconst (by decide +kernel) (by decide) rfl) ?_
  refine am_all.c (s_goto (off := 4) (by decide +kernel) (by decide)) ?_
  refine am_all.c (s_iconst (by decide +kernel) (by decide) rfl) ?_
  refine am_all.c (s_zret (by decide +kernel) rfl) ?_
  exact trivial
set_option maxRecDepth 20000 in
theorem ga_V_isSession {D : va_G} {dA : Nat → ClassId} {h b L : Nat} {xs : Nat → Int32} (hN : am_nN (am_En D dA h b L xs)) : am_all (am_En D dA h b L xs) mv_tb mv_P tV_isSession kV_isSession := by
  unfold kV_isSession
  refine am_all.c (s_iload_n (kf := 0) (by decide +kernel) rfl rfl) ?_
  refine am_all.c (s_if_lt (off := 12) (by decide +kernel) (by decide) rfl) ?_
  refine am_all.c (s_iload_n (kf := 0) (by decide +kernel) rfl rfl) ?_
  refine am_all.c (s_iconst (by decide +kernel) (by decide) rfl) ?_
  refine am_all.c (s_icmp_ge (off := 7) (by decide +kernel) (by decide) rfl) ?_
  refine am_all.c (s_iconst (by decide +kernel) (by decide) rfl) ?_
  refine am_all.c (s_goto (off := 4) (by decide +kernel) (by decide)) ?_
  refine am_all.c (s_iconst (by decide +kernel) (by decide) rfl) ?_
  refine am_all.c (s_zret (by decide +kernel) rfl) ?_
  exact trivial
set_option maxRecDepth 20000 in
theorem ga_V_areFlags {D : va_G} {dA : Nat → ClassId} {h b L : Nat} {xs : Nat → Int32} (hN : am_nN (am_En D dA h b L xs)) : am_all (am_En D dA h b L xs) mv_tb mv_P tV_areFlags kV_areFlags := by
  unfold kV_areFlags
  refine am_all.c (s_iload_n (kf := 0) (by decide +kernel) rfl rfl) ?_
  refine am_all.c (s_if_lt (off := 13) (by decide +kernel) (by decide) rfl) ?_
  refine am_all.c (s_iload_n (kf := 0) (by decide +kernel) rfl rfl) ?_
  refine am_all.c (s_bipush (by decide +kernel) (by decide +kernel) (by decide) rfl) ?_
  refine am_all.c (s_icmp_gt (off := 7) (by decide +kernel) (by decide) rfl) ?_
  refine am_all.c (s_iconst (by decide +kernel) (by decide) rfl) ?_
  refine am_all.c (s_goto (off := 4) (by decide +kernel) (by decide)) ?_
  refine am_all.c (s_iconst (by decide +kernel) (by decide) rfl) ?_
  refine am_all.c (s_zret (by decide +kernel) rfl) ?_
  exact trivial
set_option maxRecDepth 20000 in
theorem ga_V_hasMailbox {D : va_G} {dA : Nat → ClassId} {h b L : Nat} {xs : Nat → Int32} (hN : am_nN (am_En D dA h b L xs)) : am_all (am_En D dA h b L xs) mv_tb mv_P tV_hasMailbox kV_hasMailbox := by
  unfold kV_hasMailbox
  refine am_all.c (s_iload_n (kf := 1) (by decide +kernel) rfl rfl) ?_
  refine am_all.c (s_callS (by decide) (ce_V_isSession hN) tw_240 tw_241 (by decide +kernel) rfl) ?_
  refine am_all.c (s_if_eq (off := 20) (by decide +kernel) (by decide) rfl) ?_
  refine am_all.c (s_aload_n (kf := 0) (by decide +kernel) rfl rfl) ?_
  refine am_all.c (s_get (C := cn_V) (Tf := ft_V) (N := 6) rfl fi_V (by decide) tw_175 (by decide +kernel) rfl) ?_
  refine am_all.c (s_iload_n (kf := 1) (by decide +kernel) rfl rfl) ?_
  refine am_all.c (s_aald rfl (by decide +kernel) rfl) ?_
  refine am_all.c (s_callV (q := (cn_S, ft_S, 9)) (by decide) (ce_S_mailboxNumber hN) rfl rfl tw_275 tw_276 tw_277 (by decide +kernel) rfl) ?_
  refine am_all.c (s_iconst (by decide +kernel) (by decide) rfl) ?_
  refine am_all.c (s_icmp_eq (off := 7) (by decide +kernel) (by decide) rfl) ?_
  refine am_all.c (s_iconst (by decide +kernel) (by decide) rfl) ?_
  refine am_all.c (s_goto (off := 4) (by decide +kernel) (by decide)) ?_
  refine am_all.c (s_iconst (by decide +kernel) (by decide) rfl) ?_
  refine am_all.c (s_zret (by decide +kernel) rfl) ?_
  exact trivial
set_option maxRecDepth 20000 in
theorem ga_V_isInView {D : va_G} {dA : Nat → ClassId} {h b L : Nat} {xs : Nat → Int32} (hN : am_nN (am_En D dA h b L xs)) : am_all (am_En D dA h b L xs) mv_tb mv_P tV_isInView kV_isInView := by
  unfold kV_isInView
  refine am_all.c (s_aload_n (kf := 0) (by decide +kernel) rfl rfl) ?_
  refine am_all.c (s_iload_n (kf := 1) (by decide +kernel) rfl rfl) ?_
  refine am_all.c (s_callV (q := (cn_V, ft_V, 6)) (by decide) (ce_V_hasMailbox hN) rfl rfl tw_271 tw_273 tw_4 (by decide +kernel) rfl) ?_
  refine am_all.c (s_if_eq (off := 25) (by decide +kernel) (by decide) rfl) ?_
  refine am_all.c (s_iload_n (kf := 2) (by decide +kernel) rfl rfl) ?_
  refine am_all.c (s_iconst (by decide +kernel) (by decide) rfl) ?_
  refine am_all.c (s_icmp_lt (off := 20) (by decide +kernel) (by decide) rfl) ?_
  refine am_all.c (s_iload_n (kf := 2) (by decide +kernel) rfl rfl) ?_
  refine am_all.c (s_aload_n (kf := 0) (by decide +kernel) rfl rfl) ?_
  refine am_all.c (s_get (C := cn_V) (Tf := ft_V) (N := 6) rfl fi_V (by decide) tw_175 (by decide +kernel) rfl) ?_
  refine am_all.c (s_iload_n (kf := 1) (by decide +kernel) rfl rfl) ?_
  refine am_all.c (s_aald rfl (by decide +kernel) rfl) ?_
  refine am_all.c (s_callV (q := (cn_S, ft_S, 9)) (by decide) (ce_S_viewLength hN) rfl rfl tw_263 tw_264 tw_265 (by decide +kernel) rfl) ?_
  refine am_all.c (s_icmp_gt (off := 7) (by decide +kernel) (by decide) rfl) ?_
  refine am_all.c (s_iconst (by decide +kernel) (by decide) rfl) ?_
  refine am_all.c (s_goto (off := 4) (by decide +kernel) (by decide)) ?_
  refine am_all.c (s_iconst (by decide +kernel) (by decide) rfl) ?_
  refine am_all.c (s_zret (by decide +kernel) rfl) ?_
  exact trivial
set_option maxRecDepth 20000 in
theorem ga_V_mailboxOf {D : va_G} {dA : Nat → ClassId} {h b L : Nat} {xs : Nat → Int32} (hN : am_nN (am_En D dA h b L xs)) : am_all (am_En D dA h b L xs) mv_tb mv_P tV_mailboxOf kV_mailboxOf := by
  unfold kV_mailboxOf
  refine am_all.c (s_aload_n (kf := 0) (by decide +kernel) rfl rfl) ?_
  refine am_all.c (s_get (C := cn_V) (Tf := ft_V) (N := 6) rfl fi_V (by decide) tw_174 (by decide +kernel) rfl) ?_
  refine am_all.c (s_aload_n (kf := 0) (by decide +kernel) rfl rfl) ?_
  refine am_all.c (s_get (C := cn_V) (Tf := ft_V) (N := 6) rfl fi_V (by decide) tw_175 (by decide +kernel) rfl) ?_
  refine am_all.c (s_iload_n (kf := 1) (by decide +kernel) rfl rfl) ?_
  refine am_all.c (s_aald rfl (by decide +kernel) rfl) ?_
  refine am_all.c (s_callV (q := (cn_S, ft_S, 9)) (by decide) (ce_S_mailboxNumber hN) rfl rfl tw_275 tw_276 tw_277 (by decide +kernel) rfl) ?_
  refine am_all.c (s_aald rfl (by decide +kernel) rfl) ?_
  refine am_all.c (s_aret (by decide +kernel) rfl (Or.inl ⟨_, rfl⟩)) ?_
  exact trivial
set_option maxRecDepth 20000 in
theorem ga_V_sessionsWith {D : va_G} {dA : Nat → ClassId} {h b L : Nat} {xs : Nat → Int32} (hN : am_nN (am_En D dA h b L xs)) : am_all (am_En D dA h b L xs) mv_tb mv_P tV_sessionsWith kV_sessionsWith := by
  unfold kV_sessionsWith
  refine am_all.c (s_iconst (by decide +kernel) (by decide) rfl) ?_
  refine am_all.c (s_istore_n (kf := 2) (by decide +kernel) rfl rfl) ?_
  refine am_all.c (s_iconst (by decide +kernel) (by decide) rfl) ?_
  refine am_all.c (s_istore_n (kf := 3) (by decide +kernel) rfl rfl) ?_
  refine am_all.c (s_iload_n (kf := 3) (by decide +kernel) rfl rfl) ?_
  refine am_all.c (s_iconst (by decide +kernel) (by decide) rfl) ?_
  refine am_all.c (s_icmp_ge (off := 25) (by decide +kernel) (by decide) rfl) ?_
  refine am_all.c (s_aload_n (kf := 0) (by decide +kernel) rfl rfl) ?_
  refine am_all.c (s_get (C := cn_V) (Tf := ft_V) (N := 6) rfl fi_V (by decide) tw_175 (by decide +kernel) rfl) ?_
  refine am_all.c (s_iload_n (kf := 3) (by decide +kernel) rfl rfl) ?_
  refine am_all.c (s_aald rfl (by decide +kernel) rfl) ?_
  refine am_all.c (s_callV (q := (cn_S, ft_S, 9)) (by decide) (ce_S_mailboxNumber hN) rfl rfl tw_275 tw_276 tw_277 (by decide +kernel) rfl) ?_
  refine am_all.c (s_iload_n (kf := 1) (by decide +kernel) rfl rfl) ?_
  refine am_all.c (s_icmp_ne (off := 6) (by decide +kernel) (by decide) rfl) ?_
  refine am_all.c (s_iinc (by decide +kernel) rfl) ?_
  refine am_all.c (s_iinc (by decide +kernel) rfl) ?_
  refine am_all.c (s_goto (off := -24) (by decide +kernel) (by decide)) ?_
  refine am_all.c (s_iload_n (kf := 2) (by decide +kernel) rfl rfl) ?_
  refine am_all.c (s_iret (by decide +kernel) rfl) ?_
  exact trivial
set_option maxRecDepth 20000 in
theorem ga_V_update {D : va_G} {dA : Nat → ClassId} {h b L : Nat} {xs : Nat → Int32} (hN : am_nN (am_En D dA h b L xs)) : am_all (am_En D dA h b L xs) mv_tb mv_P tV_update kV_update := by
  unfold kV_update
  refine am_all.c (s_aload_n (kf := 0) (by decide +kernel) rfl rfl) ?_
  refine am_all.c (s_get (C := cn_V) (Tf := ft_V) (N := 6) rfl fi_V (by decide) tw_175 (by decide +kernel) rfl) ?_
  refine am_all.c (s_iload_n (kf := 1) (by decide +kernel) rfl rfl) ?_
  refine am_all.c (s_aald rfl (by decide +kernel) rfl) ?_
  refine am_all.c (s_aload_n (kf := 0) (by decide +kernel) rfl rfl) ?_
  refine am_all.c (s_iload_n (kf := 1) (by decide +kernel) rfl rfl) ?_
  refine am_all.c (s_callV (q := (cn_V, ft_V, 6)) (by decide) (ce_V_mailboxOf hN) rfl rfl tw_314 tw_316 tw_7 (by decide +kernel) rfl) ?_
  refine am_all.c (s_iload_n (kf := 2) (by decide +kernel) rfl rfl) ?_
  refine am_all.c (s_callV (q := (cn_S, ft_S, 9)) (by decide) (ce_S_update hN) rfl rfl tw_318 tw_319 tw_320 (by decide +kernel) rfl) ?_
  refine am_all.c (s_vret (by decide +kernel) rfl) ?_
  exact trivial
set_option maxRecDepth 20000 in
theorem ga_V_add {D : va_G} {dA : Nat → ClassId} {h b L : Nat} {xs : Nat → Int32} (hN : am_nN (am_En D dA h b L xs)) : am_all (am_En D dA h b L xs) mv_tb mv_P tV_add kV_add := by
  unfold kV_add
  refine am_all.c (s_aload_n (kf := 0) (by decide +kernel) rfl rfl) ?_
  refine am_all.c (s_get (C := cn_V) (Tf := ft_V) (N := 6) rfl fi_V (by decide) tw_174 (by decide +kernel) rfl) ?_
  refine am_all.c (s_iload_n (kf := 1) (by decide +kernel) rfl rfl) ?_
  refine am_all.c (s_aald rfl (by decide +kernel) rfl) ?_
  refine am_all.c (s_astore (by decide +kernel) rfl) ?_
  refine am_all.c (s_aload (by decide +kernel) rfl) ?_
  refine am_all.c (s_callV (q := (cn_B, ft_B, 6)) (by decide) (ce_B_isFull hN) rfl rfl tw_207 tw_208 tw_209 (by decide +kernel) rfl) ?_
  refine am_all.c (s_if_eq (off := 6) (by decide +kernel) (by decide) rfl) ?_
  refine am_all.c (s_bipush (by decide +kernel) (by decide +kernel) (by decide) rfl) ?_
  refine am_all.c (s_iret (by decide +kernel) rfl) ?_
  refine am_all.c (s_aload (by decide +kernel) rfl) ?_
  refine am_all.c (s_iload_n (kf := 2) (by decide +kernel) rfl rfl) ?_
  refine am_all.c (s_iload_n (kf := 3) (by decide +kernel) rfl rfl) ?_
  refine am_all.c (s_callV (q := (cn_B, ft_B, 6)) (by decide) (ce_B_addNew hN) rfl rfl tw_211 tw_212 tw_213 (by decide +kernel) rfl) ?_
  refine am_all.c (s_istore (by decide +kernel) rfl) ?_
  refine am_all.c (s_aload_n (kf := 0) (by decide +kernel) rfl rfl) ?_
  refine am_all.c (s_get (C := cn_V) (Tf := ft_V) (N := 6) rfl fi_V (by decide) tw_176 (by decide +kernel) rfl) ?_
  refine am_all.c (s_iload_n (kf := 1) (by decide +kernel) rfl rfl) ?_
  refine am_all.c (s_iload (by decide +kernel) rfl) ?_
  refine am_all.c (s_callV (q := (cn_J, ft_J, 7)) (by decide) (ce_J_noteAdded hN) rfl rfl tw_224 tw_225 tw_226 (by decide +kernel) rfl) ?_
  refine am_all.c (s_iload (by decide +kernel) rfl) ?_
  refine am_all.c (s_iret (by decide +kernel) rfl) ?_
  exact trivial
set_option maxRecDepth 20000 in
theorem ga_V_removeDeleted {D : va_G} {dA : Nat → ClassId} {h b L : Nat} {xs : Nat → Int32} (hN : am_nN (am_En D dA h b L xs)) : am_all (am_En D dA h b L xs) mv_tb mv_P tV_removeDeleted kV_removeDeleted := by
  unfold kV_removeDeleted
  refine am_all.c (s_aload_n (kf := 0) (by decide +kernel) rfl rfl) ?_
  refine am_all.c (s_get (C := cn_V) (Tf := ft_V) (N := 6) rfl fi_V (by decide) tw_174 (by decide +kernel) rfl) ?_
  refine am_all.c (s_iload_n (kf := 1) (by decide +kernel) rfl rfl) ?_
  refine am_all.c (s_aald rfl (by decide +kernel) rfl) ?_
  refine am_all.c (s_astore_n (kf := 2) (by decide +kernel) rfl rfl) ?_
  refine am_all.c (s_iconst (by decide +kernel) (by decide) rfl) ?_
  refine am_all.c (s_istore_n (kf := 3) (by decide +kernel) rfl rfl) ?_
  refine am_all.c (s_iconst (by decide +kernel) (by decide) rfl) ?_
  refine am_all.c (s_istore (by decide +kernel) rfl) ?_
  refine am_all.c (s_aload_n (kf := 2) (by decide +kernel) rfl rfl) ?_
  refine am_all.c (s_callV (q := (cn_B, ft_B, 6)) (by decide) (ce_B_messageCount hN) rfl rfl tw_287 tw_252 tw_253 (by decide +kernel) rfl) ?_
  refine am_all.c (s_istore (by decide +kernel) rfl) ?_
  refine am_all.c (s_iload (by decide +kernel) rfl) ?_
  refine am_all.c (s_if_le (off := 62) (by decide +kernel) (by decide) rfl) ?_
  refine am_all.c (s_aload_n (kf := 2) (by decide +kernel) rfl rfl) ?_
  refine am_all.c (s_iload (by decide +kernel) rfl) ?_
  refine am_all.c (s_callV (q := (cn_B, ft_B, 6)) (by decide) (ce_B_flagsAt hN) rfl rfl tw_288 tw_260 tw_261 (by decide +kernel) rfl) ?_
  refine am_all.c (s_bipush (by decide +kernel) (by decide +kernel) (by decide) rfl) ?_
  refine am_all.c (s_iand (by decide +kernel) rfl) ?_
  refine am_all.c (s_if_eq (off := 41) (by decide +kernel) (by decide) rfl) ?_
  refine am_all.c (s_aload_n (kf := 0) (by decide +kernel) rfl rfl) ?_
  refine am_all.c (s_get (C := cn_V) (Tf := ft_V) (N := 6) rfl fi_V (by decide) tw_176 (by decide +kernel) rfl) ?_
  refine am_all.c (s_iload_n (kf := 1) (by decide +kernel) rfl rfl) ?_
  refine am_all.c (s_aload_n (kf := 2) (by decide +kernel) rfl rfl) ?_
  refine am_all.c (s_iload (by decide +kernel) rfl) ?_
  refine am_all.c (s_callV (q := (cn_B, ft_B, 6)) (by decide) (ce_B_uidAt hN) rfl rfl tw_289 tw_256 tw_257 (by decide +kernel) rfl) ?_
  refine am_all.c (s_aload_n (kf := 2) (by decide +kernel) rfl rfl) ?_
  refine am_all.c (s_iload (by decide +kernel) rfl) ?_
  refine am_all.c (s_callV (q := (cn_B, ft_B, 6)) (by decide) (ce_B_flagsAt hN) rfl rfl tw_288 tw_260 tw_261 (by decide +kernel) rfl) ?_
  refine am_all.c (s_aload_n (kf := 2) (by decide +kernel) rfl rfl) ?_
  refine am_all.c (s_iload (by decide +kernel) rfl) ?_
  refine am_all.c (s_callV (q := (cn_B, ft_B, 6)) (by decide) (ce_B_sizeAt hN) rfl rfl tw_290 tw_291 tw_292 (by decide +kernel) rfl) ?_
  refine am_all.c (s_callV (q := (cn_J, ft_J, 7)) (by decide) (ce_J_noteRemoved hN) rfl rfl tw_294 tw_295 tw_296 (by decide +kernel) rfl) ?_
  refine am_all.c (s_aload_n (kf := 2) (by decide +kernel) rfl rfl) ?_
  refine am_all.c (s_iload (by decide +kernel) rfl) ?_
  refine am_all.c (s_callV (q := (cn_B, ft_B, 6)) (by decide) (ce_B_removeAt hN) rfl rfl tw_298 tw_299 tw_300 (by decide +kernel) rfl) ?_
  refine am_all.c (s_iinc (by decide +kernel) rfl) ?_
  refine am_all.c (s_goto (off := 6) (by decide +kernel) (by decide)) ?_
  refine am_all.c (s_iinc (by decide +kernel) rfl) ?_
  refine am_all.c (s_iinc (by decide +kernel) rfl) ?_
  refine am_all.c (s_goto (off := -61) (by decide +kernel) (by decide)) ?_
  refine am_all.c (s_iload_n (kf := 3) (by decide +kernel) rfl rfl) ?_
  refine am_all.c (s_iret (by decide +kernel) rfl) ?_
  exact trivial
set_option maxRecDepth 20000 in
theorem ga_V_changedFlags {D : va_G} {dA : Nat → ClassId} {h b L : Nat} {xs : Nat → Int32} (hN : am_nN (am_En D dA h b L xs)) : am_all (am_En D dA h b L xs) mv_tb mv_P tV_changedFlags kV_changedFlags := by
  unfold kV_changedFlags
  refine am_all.c (s_iload_n (kf := 1) (by decide +kernel) rfl rfl) ?_
  refine am_all.c (s_lsw (dflt := 37) (ps := #[(1, 27), (2, 31)]) (len := 27) (by decide +kernel) (by decide) (by decide) (by decide)) ?_
  refine am_all.c (s_iload_n (kf := 0) (by decide +kernel) rfl rfl) ?_
  refine am_all.c (s_iload_n (kf := 2) (by decide +kernel) rfl rfl) ?_
  refine am_all.c (s_ior (by decide +kernel) rfl) ?_
  refine am_all.c (s_iret (by decide +kernel) rfl) ?_
  refine am_all.c (s_iload_n (kf := 0) (by decide +kernel) rfl rfl) ?_
  refine am_all.c (s_iload_n (kf := 2) (by decide +kernel) rfl rfl) ?_
  refine am_all.c (s_iconst (by decide +kernel) (by decide) rfl) ?_
  refine am_all.c (s_ixor (by decide +kernel) rfl) ?_
  refine am_all.c (s_iand (by decide +kernel) rfl) ?_
  refine am_all.c (s_iret (by decide +kernel) rfl) ?_
  refine am_all.c (s_iload_n (kf := 2) (by decide +kernel) rfl rfl) ?_
  refine am_all.c (s_iret (by decide +kernel) rfl) ?_
  exact trivial
set_option maxRecDepth 20000 in
theorem ga_V_findHits {D : va_G} {dA : Nat → ClassId} {h b L : Nat} {xs : Nat → Int32} (hN : am_nN (am_En D dA h b L xs)) : am_all (am_En D dA h b L xs) mv_tb mv_P tV_findHits kV_findHits := by
  unfold kV_findHits
  refine am_all.c (s_aload_n (kf := 0) (by decide +kernel) rfl rfl) ?_
  refine am_all.c (s_iconst (by decide +kernel) (by decide) rfl) ?_
  refine am_all.c (s_put (C := cn_V) (Tf := ft_V) (N := 6) (ty := .int) rfl fi_V fy_V fo_V fn_V (by decide) tw_179 (Or.inl rfl) (by decide +kernel) (Or.inl ⟨rfl, rfl⟩) (by decide +kernel) rfl) ?_
  refine am_all.c (s_iconst (by decide +kernel) (by decide) rfl) ?_
  refine am_all.c (s_istore_n (kf := 3) (by decide +kernel) rfl rfl) ?_
  refine am_all.c (s_iload_n (kf := 3) (by decide +kernel) rfl rfl) ?_
  refine am_all.c (s_aload_n (kf := 1) (by decide +kernel) rfl rfl) ?_
  refine am_all.c (s_callV (q := (cn_S, ft_S, 9)) (by decide) (ce_S_viewLength hN) rfl rfl tw_263 tw_264 tw_265 (by decide +kernel) rfl) ?_
  refine am_all.c (s_icmp_gt (off := 60) (by decide +kernel) (by decide) rfl) ?_
  refine am_all.c (s_aload_n (kf := 2) (by decide +kernel) rfl rfl) ?_
  refine am_all.c (s_aload_n (kf := 1) (by decide +kernel) rfl rfl) ?_
  refine am_all.c (s_iload_n (kf := 3) (by decide +kernel) rfl rfl) ?_
  refine am_all.c (s_callV (q := (cn_S, ft_S, 9)) (by decide) (ce_S_uidOf hN) rfl rfl tw_362 tw_339 tw_340 (by decide +kernel) rfl) ?_
  refine am_all.c (s_callV (q := (cn_B, ft_B, 6)) (by decide) (ce_B_positionOf hN) rfl rfl tw_363 tw_327 tw_328 (by decide +kernel) rfl) ?_
  refine am_all.c (s_istore (by decide +kernel) rfl) ?_
  refine am_all.c (s_iload (by decide +kernel) rfl) ?_
  refine am_all.c (s_iconst (by decide +kernel) (by decide) rfl) ?_
  refine am_all.c (s_icmp_eq (off := 37) (by decide +kernel) (by decide) rfl) ?_
  refine am_all.c (s_aload_n (kf := 0) (by decide +kernel) rfl rfl) ?_
  refine am_all.c (s_get (C := cn_V) (Tf := ft_V) (N := 6) rfl fi_V (by decide) tw_177 (by decide +kernel) rfl) ?_
  refine am_all.c (s_aload_n (kf := 2) (by decide +kernel) rfl rfl) ?_
  refine am_all.c (s_iload (by decide +kernel) rfl) ?_
  refine am_all.c (s_iload_n (kf := 3) (by decide +kernel) rfl rfl) ?_
  refine am_all.c (s_callV (q := (cn_C, ft_C, 7)) (by decide) (ce_C_isFulfilledBy hN) rfl rfl tw_438 tw_439 tw_440 (by decide +kernel) rfl) ?_
  refine am_all.c (s_if_eq (off := 23) (by decide +kernel) (by decide) rfl) ?_
  refine am_all.c (s_aload_n (kf := 0) (by decide +kernel) rfl rfl) ?_
  refine am_all.c (s_get (C := cn_V) (Tf := ft_V) (N := 6) rfl fi_V (by decide) tw_178 (by decide +kernel) rfl) ?_
  refine am_all.c (s_aload_n (kf := 0) (by decide +kernel) rfl rfl) ?_
  refine am_all.c (s_get (C := cn_V) (Tf := ft_V) (N := 6) rfl fi_V (by decide) tw_179 (by decide +kernel) rfl) ?_
  refine am_all.c (s_iload_n (kf := 3) (by decide +kernel) rfl rfl) ?_
  refine am_all.c (s_iast rfl (by decide +kernel) rfl) ?_
  refine am_all.c (s_aload_n (kf := 0) (by decide +kernel) rfl rfl) ?_
  refine am_all.c (s_dup (by decide +kernel) rfl) ?_
  refine am_all.c (s_get (C := cn_V) (Tf := ft_V) (N := 6) rfl fi_V (by decide) tw_179 (by decide +kernel) rfl) ?_
  refine am_all.c (s_iconst (by decide +kernel) (by decide) rfl) ?_
  refine am_all.c (s_iadd (by decide +kernel) rfl) ?_
  refine am_all.c (s_put (C := cn_V) (Tf := ft_V) (N := 6) (ty := .int) rfl fi_V fy_V fo_V fn_V (by decide) tw_179 (Or.inl rfl) (by decide +kernel) (Or.inl ⟨rfl, rfl⟩) (by decide +kernel) rfl) ?_
  refine am_all.c (s_iinc (by decide +kernel) rfl) ?_
  refine am_all.c (s_goto (off := -62) (by decide +kernel) (by decide)) ?_
  refine am_all.c (s_vret (by decide +kernel) rfl) ?_
  exact trivial
