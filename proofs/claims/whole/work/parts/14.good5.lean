/-! printed by wip/whole/gen/prog.py: each instruction against the abstract one -/
set_option maxRecDepth 20000 in
theorem ga_M_close {D : va_G} {dA : Nat → ClassId} {h b L : Nat} {xs : Nat → Int32} (hN : am_nN (am_En D dA h b L xs)) : am_all (am_En D dA h b L xs) mv_tb mv_P tM_close kM_close := by
  unfold kM_close
  refine am_all.c (s_aload_n (kf := 0) (by decide +kernel) rfl rfl) ?_
  refine am_all.c (s_iload_n (kf := 1) (by decide +kernel) rfl rfl) ?_
  refine am_all.c (s_callV (q := (cn_M, ft_M, 21)) (by decide) (ce_M_none hN) rfl rfl tw_651 tw_653 tw_26 (by decide +kernel) rfl) ?_
  refine am_all.c (s_if_eq (off := 5) (by decide +kernel) (by decide) rfl) ?_
  refine am_all.c (s_iconst (by decide +kernel) (by decide) rfl) ?_
  refine am_all.c (s_iret (by decide +kernel) rfl) ?_
  refine am_all.c (s_aload_n (kf := 0) (by decide +kernel) rfl rfl) ?_
  refine am_all.c (s_get (C := cn_M) (Tf := ft_M) (N := 21) rfl fi_M (by decide) tw_560 (by decide +kernel) rfl) ?_
  refine am_all.c (s_iload_n (kf := 1) (by decide +kernel) rfl rfl) ?_
  refine am_all.c (s_zald rfl (by decide +kernel) rfl) ?_
  refine am_all.c (s_if_eq (off := 7) (by decide +kernel) (by decide) rfl) ?_
  refine am_all.c (s_iconst (by decide +kernel) (by decide) rfl) ?_
  refine am_all.c (s_goto (off := 13) (by decide +kernel) (by decide)) ?_
  refine am_all.c (s_aload_n (kf := 0) (by decide +kernel) rfl rfl) ?_
  refine am_all.c (s_aload_n (kf := 0) (by decide +kernel) rfl rfl) ?_
  refine am_all.c (s_get (C := cn_M) (Tf := ft_M) (N := 21) rfl fi_M (by decide) tw_559 (by decide +kernel) rfl) ?_
  refine am_all.c (s_iload_n (kf := 1) (by decide +kernel) rfl rfl) ?_
  refine am_all.c (s_iald rfl (by decide +kernel) rfl) ?_
  refine am_all.c (s_callV (q := (cn_M, ft_M, 21)) (by decide) (ce_M_purge hN) rfl rfl tw_655 tw_657 tw_27 (by decide +kernel) rfl) ?_
  refine am_all.c (s_istore_n (kf := 2) (by decide +kernel) rfl rfl) ?_
  refine am_all.c (s_aload_n (kf := 0) (by decide +kernel) rfl rfl) ?_
  refine am_all.c (s_get (C := cn_M) (Tf := ft_M) (N := 21) rfl fi_M (by decide) tw_559 (by decide +kernel) rfl) ?_
  refine am_all.c (s_iload_n (kf := 1) (by decide +kernel) rfl rfl) ?_
  refine am_all.c (s_iconst (by decide +kernel) (by decide) rfl) ?_
  refine am_all.c (s_iast rfl (by decide +kernel) rfl) ?_
  refine am_all.c (s_iload_n (kf := 2) (by decide +kernel) rfl rfl) ?_
  refine am_all.c (s_iret (by decide +kernel) rfl) ?_
  exact trivial
set_option maxRecDepth 20000 in
theorem ga_M_check {D : va_G} {dA : Nat → ClassId} {h b L : Nat} {xs : Nat → Int32} (hN : am_nN (am_En D dA h b L xs)) : am_all (am_En D dA h b L xs) mv_tb mv_P tM_check kM_check := by
  unfold kM_check
  refine am_all.c (s_aload_n (kf := 0) (by decide +kernel) rfl rfl) ?_
  refine am_all.c (s_iload_n (kf := 1) (by decide +kernel) rfl rfl) ?_
  refine am_all.c (s_callV (q := (cn_M, ft_M, 21)) (by decide) (ce_M_none hN) rfl rfl tw_651 tw_653 tw_26 (by decide +kernel) rfl) ?_
  refine am_all.c (s_if_eq (off := 5) (by decide +kernel) (by decide) rfl) ?_
  refine am_all.c (s_iconst (by decide +kernel) (by decide) rfl) ?_
  refine am_all.c (s_iret (by decide +kernel) rfl) ?_
  refine am_all.c (s_aload_n (kf := 0) (by decide +kernel) rfl rfl) ?_
  refine am_all.c (s_iload_n (kf := 1) (by decide +kernel) rfl rfl) ?_
  refine am_all.c (s_iconst (by decide +kernel) (by decide) rfl) ?_
  refine am_all.c (s_callV (q := (cn_M, ft_M, 21)) (by decide) (ce_M_update hN) rfl rfl tw_663 tw_665 tw_28 (by decide +kernel) rfl) ?_
  refine am_all.c (s_aload_n (kf := 0) (by decide +kernel) rfl rfl) ?_
  refine am_all.c (s_get (C := cn_M) (Tf := ft_M) (N := 21) rfl fi_M (by decide) tw_565 (by decide +kernel) rfl) ?_
  refine am_all.c (s_iload_n (kf := 1) (by decide +kernel) rfl rfl) ?_
  refine am_all.c (s_iald rfl (by decide +kernel) rfl) ?_
  refine am_all.c (s_iret (by decide +kernel) rfl) ?_
  exact trivial
set_option maxRecDepth 20000 in
theorem ga_M_fetch {D : va_G} {dA : Nat → ClassId} {h b L : Nat} {xs : Nat → Int32} (hN : am_nN (am_En D dA h b L xs)) : am_all (am_En D dA h b L xs) mv_tb mv_P tM_fetch kM_fetch := by
  unfold kM_fetch
  refine am_all.c (s_aload_n (kf := 0) (by decide +kernel) rfl rfl) ?_
  refine am_all.c (s_iload_n (kf := 1) (by decide +kernel) rfl rfl) ?_
  refine am_all.c (s_iload_n (kf := 2) (by decide +kernel) rfl rfl) ?_
  refine am_all.c (s_callV (q := (cn_M, ft_M, 21)) (by decide) (ce_M_bad hN) rfl rfl tw_691 tw_693 tw_34 (by decide +kernel) rfl) ?_
  refine am_all.c (s_if_eq (off := 5) (by decide +kernel) (by decide) rfl) ?_
  refine am_all.c (s_iconst (by decide +kernel) (by decide) rfl) ?_
  refine am_all.c (s_iret (by decide +kernel) rfl) ?_
  refine am_all.c (s_aload_n (kf := 0) (by decide +kernel) rfl rfl) ?_
  refine am_all.c (s_iload_n (kf := 1) (by decide +kernel) rfl rfl) ?_
  refine am_all.c (s_iload_n (kf := 2) (by decide +kernel) rfl rfl) ?_
  refine am_all.c (s_callV (q := (cn_M, ft_M, 21)) (by decide) (ce_M_gone hN) rfl rfl tw_667 tw_669 tw_29 (by decide +kernel) rfl) ?_
  refine am_all.c (s_if_eq (off := 6) (by decide +kernel) (by decide) rfl) ?_
  refine am_all.c (s_bipush (by decide +kernel) (by decide +kernel) (by decide) rfl) ?_
  refine am_all.c (s_iret (by decide +kernel) rfl) ?_
  refine am_all.c (s_aload_n (kf := 0) (by decide +kernel) rfl rfl) ?_
  refine am_all.c (s_aload_n (kf := 0) (by decide +kernel) rfl rfl) ?_
  refine am_all.c (s_get (C := cn_M) (Tf := ft_M) (N := 21) rfl fi_M (by decide) tw_559 (by decide +kernel) rfl) ?_
  refine am_all.c (s_iload_n (kf := 1) (by decide +kernel) rfl rfl) ?_
  refine am_all.c (s_iald rfl (by decide +kernel) rfl) ?_
  refine am_all.c (s_aload_n (kf := 0) (by decide +kernel) rfl rfl) ?_
  refine am_all.c (s_iload_n (kf := 1) (by decide +kernel) rfl rfl) ?_
  refine am_all.c (s_iload_n (kf := 2) (by decide +kernel) rfl rfl) ?_
  refine am_all.c (s_callV (q := (cn_M, ft_M, 21)) (by decide) (ce_M_uidOf hN) rfl rfl tw_671 tw_673 tw_30 (by decide +kernel) rfl) ?_
  refine am_all.c (s_callV (q := (cn_M, ft_M, 21)) (by decide) (ce_M_flagsOf hN) rfl rfl tw_683 tw_685 tw_33 (by decide +kernel) rfl) ?_
  refine am_all.c (s_istore_n (kf := 3) (by decide +kernel) rfl rfl) ?_
  refine am_all.c (s_aload_n (kf := 0) (by decide +kernel) rfl rfl) ?_
  refine am_all.c (s_get (C := cn_M) (Tf := ft_M) (N := 21) rfl fi_M (by decide) tw_563 (by decide +kernel) rfl) ?_
  refine am_all.c (s_bipush (by decide +kernel) (by decide +kernel) (by decide) rfl) ?_
  refine am_all.c (s_iload_n (kf := 1) (by decide +kernel) rfl rfl) ?_
  refine am_all.c (s_imul (by decide +kernel) rfl) ?_
  refine am_all.c (s_iload_n (kf := 2) (by decide +kernel) rfl rfl) ?_
  refine am_all.c (s_iadd (by decide +kernel) rfl) ?_
  refine am_all.c (s_iconst (by decide +kernel) (by decide) rfl) ?_
  refine am_all.c (s_isub (by decide +kernel) rfl) ?_
  refine am_all.c (s_iload_n (kf := 3) (by decide +kernel) rfl rfl) ?_
  refine am_all.c (s_iast rfl (by decide +kernel) rfl) ?_
  refine am_all.c (s_iload_n (kf := 3) (by decide +kernel) rfl rfl) ?_
  refine am_all.c (s_iret (by decide +kernel) rfl) ?_
  exact trivial
set_option maxRecDepth 20000 in
theorem ga_M_store {D : va_G} {dA : Nat → ClassId} {h b L : Nat} {xs : Nat → Int32} (hN : am_nN (am_En D dA h b L xs)) : am_all (am_En D dA h b L xs) mv_tb mv_P tM_store kM_store := by
  unfold kM_store
  refine am_all.c (s_aload_n (kf := 0) (by decide +kernel) rfl rfl) ?_
  refine am_all.c (s_iload_n (kf := 1) (by decide +kernel) rfl rfl) ?_
  refine am_all.c (s_iload_n (kf := 2) (by decide +kernel) rfl rfl) ?_
  refine am_all.c (s_callV (q := (cn_M, ft_M, 21)) (by decide) (ce_M_bad hN) rfl rfl tw_691 tw_693 tw_34 (by decide +kernel) rfl) ?_
  refine am_all.c (s_if_ne (off := 23) (by decide +kernel) (by decide) rfl) ?_
  refine am_all.c (s_iload_n (kf := 3) (by decide +kernel) rfl rfl) ?_
  refine am_all.c (s_iconst (by decide +kernel) (by decide) rfl) ?_
  refine am_all.c (s_iconst (by decide +kernel) (by decide) rfl) ?_
  refine am_all.c (s_callS (by decide) (ce_M_in hN) tw_620 tw_621 (by decide +kernel) rfl) ?_
  refine am_all.c (s_if_eq (off := 14) (by decide +kernel) (by decide) rfl) ?_
  refine am_all.c (s_iload (by decide +kernel) rfl) ?_
  refine am_all.c (s_iconst (by decide +kernel) (by decide) rfl) ?_
  refine am_all.c (s_bipush (by decide +kernel) (by decide +kernel) (by decide) rfl) ?_
  refine am_all.c (s_callS (by decide) (ce_M_in hN) tw_620 tw_621 (by decide +kernel) rfl) ?_
  refine am_all.c (s_if_ne (off := 5) (by decide +kernel) (by decide) rfl) ?_
  refine am_all.c (s_iconst (by decide +kernel) (by decide) rfl) ?_
  refine am_all.c (s_iret (by decide +kernel) rfl) ?_
  refine am_all.c (s_aload_n (kf := 0) (by decide +kernel) rfl rfl) ?_
  refine am_all.c (s_get (C := cn_M) (Tf := ft_M) (N := 21) rfl fi_M (by decide) tw_560 (by decide +kernel) rfl) ?_
  refine am_all.c (s_iload_n (kf := 1) (by decide +kernel) rfl rfl) ?_
  refine am_all.c (s_zald rfl (by decide +kernel) rfl) ?_
  refine am_all.c (s_if_eq (off := 6) (by decide +kernel) (by decide) rfl) ?_
  refine am_all.c (s_bipush (by decide +kernel) (by decide +kernel) (by decide) rfl) ?_
  refine am_all.c (s_iret (by decide +kernel) rfl) ?_
  refine am_all.c (s_aload_n (kf := 0) (by decide +kernel) rfl rfl) ?_
  refine am_all.c (s_iload_n (kf := 1) (by decide +kernel) rfl rfl) ?_
  refine am_all.c (s_iload_n (kf := 2) (by decide +kernel) rfl rfl) ?_
  refine am_all.c (s_callV (q := (cn_M, ft_M, 21)) (by decide) (ce_M_gone hN) rfl rfl tw_667 tw_669 tw_29 (by decide +kernel) rfl) ?_
  refine am_all.c (s_if_eq (off := 6) (by decide +kernel) (by decide) rfl) ?_
  refine am_all.c (s_bipush (by decide +kernel) (by decide +kernel) (by decide) rfl) ?_
  refine am_all.c (s_iret (by decide +kernel) rfl) ?_
  refine am_all.c (s_aload_n (kf := 0) (by decide +kernel) rfl rfl) ?_
  refine am_all.c (s_iload_n (kf := 1) (by decide +kernel) rfl rfl) ?_
  refine am_all.c (s_iload_n (kf := 2) (by decide +kernel) rfl rfl) ?_
  refine am_all.c (s_callV (q := (cn_M, ft_M, 21)) (by decide) (ce_M_uidOf hN) rfl rfl tw_671 tw_673 tw_30 (by decide +kernel) rfl) ?_
  refine am_all.c (s_istore (by decide +kernel) rfl) ?_
  refine am_all.c (s_aload_n (kf := 0) (by decide +kernel) rfl rfl) ?_
  refine am_all.c (s_aload_n (kf := 0) (by decide +kernel) rfl rfl) ?_
  refine am_all.c (s_get (C := cn_M) (Tf := ft_M) (N := 21) rfl fi_M (by decide) tw_559 (by decide +kernel) rfl) ?_
  refine am_all.c (s_iload_n (kf := 1) (by decide +kernel) rfl rfl) ?_
  refine am_all.c (s_iald rfl (by decide +kernel) rfl) ?_
  refine am_all.c (s_iload (by decide +kernel) rfl) ?_
  refine am_all.c (s_callV (q := (cn_M, ft_M, 21)) (by decide) (ce_M_flagsOf hN) rfl rfl tw_683 tw_685 tw_33 (by decide +kernel) rfl) ?_
  refine am_all.c (s_istore (by decide +kernel) rfl) ?_
  refine am_all.c (s_iload_n (kf := 3) (by decide +kernel) rfl rfl) ?_
  refine am_all.c (s_if_ne (off := 8) (by decide +kernel) (by decide) rfl) ?_
  refine am_all.c (s_iload (by decide +kernel) rfl) ?_
  refine am_all.c (s_goto (off := 23) (by decide +kernel) (by decide)) ?_
  refine am_all.c (s_iload_n (kf := 3) (by decide +kernel) rfl rfl) ?_
  refine am_all.c (s_iconst (by decide +kernel) (by decide) rfl) ?_
  refine am_all.c (s_icmp_ne (off := 11) (by decide +kernel) (by decide) rfl) ?_
  refine am_all.c (s_iload (by decide +kernel) rfl) ?_
  refine am_all.c (s_iload (by decide +kernel) rfl) ?_
  refine am_all.c (s_ior (by decide +kernel) rfl) ?_
  refine am_all.c (s_goto (off := 10) (by decide +kernel) (by decide)) ?_
  refine am_all.c (s_iload (by decide +kernel) rfl) ?_
  refine am_all.c (s_iload (by decide +kernel) rfl) ?_
  refine am_all.c (s_iconst (by decide +kernel) (by decide) rfl) ?_
  refine am_all.c (s_ixor (by decide +kernel) rfl) ?_
  refine am_all.c (s_iand (by decide +kernel) rfl) ?_
  refine am_all.c (s_istore (by decide +kernel) rfl) ?_
  refine am_all.c (s_aload_n (kf := 0) (by decide +kernel) rfl rfl) ?_
  refine am_all.c (s_iconst (by decide +kernel) (by decide) rfl) ?_
  refine am_all.c (s_aload_n (kf := 0) (by decide +kernel) rfl rfl) ?_
  refine am_all.c (s_get (C := cn_M) (Tf := ft_M) (N := 21) rfl fi_M (by decide) tw_559 (by decide +kernel) rfl) ?_
  refine am_all.c (s_iload_n (kf := 1) (by decide +kernel) rfl rfl) ?_
  refine am_all.c (s_iald rfl (by decide +kernel) rfl) ?_
  refine am_all.c (s_iload (by decide +kernel) rfl) ?_
  refine am_all.c (s_iload (by decide +kernel) rfl) ?_
  refine am_all.c (s_iconst (by decide +kernel) (by decide) rfl) ?_
  refine am_all.c (s_callV (q := (cn_M, ft_M, 21)) (by decide) (ce_M_note hN) rfl rfl tw_627 tw_629 tw_22 (by decide +kernel) rfl) ?_
  refine am_all.c (s_aload_n (kf := 0) (by decide +kernel) rfl rfl) ?_
  refine am_all.c (s_get (C := cn_M) (Tf := ft_M) (N := 21) rfl fi_M (by decide) tw_563 (by decide +kernel) rfl) ?_
  refine am_all.c (s_bipush (by decide +kernel) (by decide +kernel) (by decide) rfl) ?_
  refine am_all.c (s_iload_n (kf := 1) (by decide +kernel) rfl rfl) ?_
  refine am_all.c (s_imul (by decide +kernel) rfl) ?_
  refine am_all.c (s_iload_n (kf := 2) (by decide +kernel) rfl rfl) ?_
  refine am_all.c (s_iadd (by decide +kernel) rfl) ?_
  refine am_all.c (s_iconst (by decide +kernel) (by decide) rfl) ?_
  refine am_all.c (s_isub (by decide +kernel) rfl) ?_
  refine am_all.c (s_iload (by decide +kernel) rfl) ?_
  refine am_all.c (s_iast rfl (by decide +kernel) rfl) ?_
  refine am_all.c (s_aload_n (kf := 0) (by decide +kernel) rfl rfl) ?_
  refine am_all.c (s_iload_n (kf := 1) (by decide +kernel) rfl rfl) ?_
  refine am_all.c (s_iconst (by decide +kernel) (by decide) rfl) ?_
  refine am_all.c (s_callV (q := (cn_M, ft_M, 21)) (by decide) (ce_M_update hN) rfl rfl tw_663 tw_665 tw_28 (by decide +kernel) rfl) ?_
  refine am_all.c (s_iload (by decide +kernel) rfl) ?_
  refine am_all.c (s_iret (by decide +kernel) rfl) ?_
  exact trivial
set_option maxRecDepth 20000 in
theorem ga_M_expunge {D : va_G} {dA : Nat → ClassId} {h b L : Nat} {xs : Nat → Int32} (hN : am_nN (am_En D dA h b L xs)) : am_all (am_En D dA h b L xs) mv_tb mv_P tM_expunge kM_expunge := by
  unfold kM_expunge
  refine am_all.c (s_aload_n (kf := 0) (by decide +kernel) rfl rfl) ?_
  refine am_all.c (s_iload_n (kf := 1) (by decide +kernel) rfl rfl) ?_
  refine am_all.c (s_callV (q := (cn_M, ft_M, 21)) (by decide) (ce_M_none hN) rfl rfl tw_651 tw_653 tw_26 (by decide +kernel) rfl) ?_
  refine am_all.c (s_if_eq (off := 5) (by decide +kernel) (by decide) rfl) ?_
  refine am_all.c (s_iconst (by decide +kernel) (by decide) rfl) ?_
  refine am_all.c (s_iret (by decide +kernel) rfl) ?_
  refine am_all.c (s_aload_n (kf := 0) (by decide +kernel) rfl rfl) ?_
  refine am_all.c (s_get (C := cn_M) (Tf := ft_M) (N := 21) rfl fi_M (by decide) tw_560 (by decide +kernel) rfl) ?_
  refine am_all.c (s_iload_n (kf := 1) (by decide +kernel) rfl rfl) ?_
  refine am_all.c (s_zald rfl (by decide +kernel) rfl) ?_
  refine am_all.c (s_if_eq (off := 6) (by decide +kernel) (by decide) rfl) ?_
  refine am_all.c (s_bipush (by decide +kernel) (by decide +kernel) (by decide) rfl) ?_
  refine am_all.c (s_iret (by decide +kernel) rfl) ?_
  refine am_all.c (s_aload_n (kf := 0) (by decide +kernel) rfl rfl) ?_
  refine am_all.c (s_aload_n (kf := 0) (by decide +kernel) rfl rfl) ?_
  refine am_all.c (s_get (C := cn_M) (Tf := ft_M) (N := 21) rfl fi_M (by decide) tw_559 (by decide +kernel) rfl) ?_
  refine am_all.c (s_iload_n (kf := 1) (by decide +kernel) rfl rfl) ?_
  refine am_all.c (s_iald rfl (by decide +kernel) rfl) ?_
  refine am_all.c (s_callV (q := (cn_M, ft_M, 21)) (by decide) (ce_M_purge hN) rfl rfl tw_655 tw_657 tw_27 (by decide +kernel) rfl) ?_
  refine am_all.c (s_istore_n (kf := 2) (by decide +kernel) rfl rfl) ?_
  refine am_all.c (s_aload_n (kf := 0) (by decide +kernel) rfl rfl) ?_
  refine am_all.c (s_iload_n (kf := 1) (by decide +kernel) rfl rfl) ?_
  refine am_all.c (s_iconst (by decide +kernel) (by decide) rfl) ?_
  refine am_all.c (s_callV (q := (cn_M, ft_M, 21)) (by decide) (ce_M_update hN) rfl rfl tw_663 tw_665 tw_28 (by decide +kernel) rfl) ?_
  refine am_all.c (s_iload_n (kf := 2) (by decide +kernel) rfl rfl) ?_
  refine am_all.c (s_iret (by decide +kernel) rfl) ?_
  exact trivial
set_option maxRecDepth 20000 in
theorem ga_M_copy {D : va_G} {dA : Nat → ClassId} {h b L : Nat} {xs : Nat → Int32} (hN : am_nN (am_En D dA h b L xs)) : am_all (am_En D dA h b L xs) mv_tb mv_P tM_copy kM_copy := by
  unfold kM_copy
  refine am_all.c (s_aload_n (kf := 0) (by decide +kernel) rfl rfl) ?_
  refine am_all.c (s_iload_n (kf := 1) (by decide +kernel) rfl rfl) ?_
  refine am_all.c (s_iload_n (kf := 2) (by decide +kernel) rfl rfl) ?_
  refine am_all.c (s_callV (q := (cn_M, ft_M, 21)) (by decide) (ce_M_bad hN) rfl rfl tw_691 tw_693 tw_34 (by decide +kernel) rfl) ?_
  refine am_all.c (s_if_ne (off := 12) (by decide +kernel) (by decide) rfl) ?_
  refine am_all.c (s_iload_n (kf := 3) (by decide +kernel) rfl rfl) ?_
  refine am_all.c (s_iconst (by decide +kernel) (by decide) rfl) ?_
  refine am_all.c (s_iconst (by decide +kernel) (by decide) rfl) ?_
  refine am_all.c (s_callS (by decide) (ce_M_in hN) tw_620 tw_621 (by decide +kernel) rfl) ?_
  refine am_all.c (s_if_ne (off := 5) (by decide +kernel) (by decide) rfl) ?_
  refine am_all.c (s_iconst (by decide +kernel) (by decide) rfl) ?_
  refine am_all.c (s_iret (by decide +kernel) rfl) ?_
  refine am_all.c (s_aload_n (kf := 0) (by decide +kernel) rfl rfl) ?_
  refine am_all.c (s_iload_n (kf := 1) (by decide +kernel) rfl rfl) ?_
  refine am_all.c (s_iload_n (kf := 2) (by decide +kernel) rfl rfl) ?_
  refine am_all.c (s_callV (q := (cn_M, ft_M, 21)) (by decide) (ce_M_gone hN) rfl rfl tw_667 tw_669 tw_29 (by decide +kernel) rfl) ?_
  refine am_all.c (s_if_eq (off := 6) (by decide +kernel) (by decide) rfl) ?_
  refine am_all.c (s_bipush (by decide +kernel) (by decide +kernel) (by decide) rfl) ?_
  refine am_all.c (s_iret (by decide +kernel) rfl) ?_
  refine am_all.c (s_bipush (by decide +kernel) (by decide +kernel) (by decide) rfl) ?_
  refine am_all.c (s_aload_n (kf := 0) (by decide +kernel) rfl rfl) ?_
  refine am_all.c (s_get (C := cn_M) (Tf := ft_M) (N := 21) rfl fi_M (by decide) tw_559 (by decide +kernel) rfl) ?_
  refine am_all.c (s_iload_n (kf := 1) (by decide +kernel) rfl rfl) ?_
  refine am_all.c (s_iald rfl (by decide +kernel) rfl) ?_
  refine am_all.c (s_imul (by decide +kernel) rfl) ?_
  refine am_all.c (s_iconst (by decide +kernel) (by decide) rfl) ?_
  refine am_all.c (s_aload_n (kf := 0) (by decide +kernel) rfl rfl) ?_
  refine am_all.c (s_aload_n (kf := 0) (by decide +kernel) rfl rfl) ?_
  refine am_all.c (s_get (C := cn_M) (Tf := ft_M) (N := 21) rfl fi_M (by decide) tw_559 (by decide +kernel) rfl) ?_
  refine am_all.c (s_iload_n (kf := 1) (by decide +kernel) rfl rfl) ?_
  refine am_all.c (s_iald rfl (by decide +kernel) rfl) ?_
  refine am_all.c (s_aload_n (kf := 0) (by decide +kernel) rfl rfl) ?_
  refine am_all.c (s_iload_n (kf := 1) (by decide +kernel) rfl rfl) ?_
  refine am_all.c (s_iload_n (kf := 2) (by decide +kernel) rfl rfl) ?_
  refine am_all.c (s_callV (q := (cn_M, ft_M, 21)) (by decide) (ce_M_uidOf hN) rfl rfl tw_671 tw_673 tw_30 (by decide +kernel) rfl) ?_
  refine am_all.c (s_callV (q := (cn_M, ft_M, 21)) (by decide) (ce_M_place hN) rfl rfl tw_635 tw_637 tw_24 (by decide +kernel) rfl) ?_
  refine am_all.c (s_imul (by decide +kernel) rfl) ?_
  refine am_all.c (s_iadd (by decide +kernel) rfl) ?_
  refine am_all.c (s_istore (by decide +kernel) rfl) ?_
  refine am_all.c (s_aload_n (kf := 0) (by decide +kernel) rfl rfl) ?_
  refine am_all.c (s_iload_n (kf := 3) (by decide +kernel) rfl rfl) ?_
  refine am_all.c (s_aload_n (kf := 0) (by decide +kernel) rfl rfl) ?_
  refine am_all.c (s_get (C := cn_M) (Tf := ft_M) (N := 21) rfl fi_M (by decide) tw_556 (by decide +kernel) rfl) ?_
  refine am_all.c (s_iload (by decide +kernel) rfl) ?_
  refine am_all.c (s_iconst (by decide +kernel) (by decide) rfl) ?_
  refine am_all.c (s_iadd (by decide +kernel) rfl) ?_
  refine am_all.c (s_iald rfl (by decide +kernel) rfl) ?_
  refine am_all.c (s_aload_n (kf := 0) (by decide +kernel) rfl rfl) ?_
  refine am_all.c (s_get (C := cn_M) (Tf := ft_M) (N := 21) rfl fi_M (by decide) tw_556 (by decide +kernel) rfl) ?_
  refine am_all.c (s_iload (by decide +kernel) rfl) ?_
  refine am_all.c (s_iconst (by decide +kernel) (by decide) rfl) ?_
  refine am_all.c (s_iadd (by decide +kernel) rfl) ?_
  refine am_all.c (s_iald rfl (by decide +kernel) rfl) ?_
  refine am_all.c (s_callV (q := (cn_M, ft_M, 21)) (by decide) (ce_M_add hN) rfl rfl tw_623 tw_625 tw_21 (by decide +kernel) rfl) ?_
  refine am_all.c (s_istore (by decide +kernel) rfl) ?_
  refine am_all.c (s_iload (by decide +kernel) rfl) ?_
  refine am_all.c (s_if_le (off := 9) (by decide +kernel) (by decide) rfl) ?_
  refine am_all.c (s_aload_n (kf := 0) (by decide +kernel) rfl rfl) ?_
  refine am_all.c (s_iload_n (kf := 1) (by decide +kernel) rfl rfl) ?_
  refine am_all.c (s_iconst (by decide +kernel) (by decide) rfl) ?_
  refine am_all.c (s_callV (q := (cn_M, ft_M, 21)) (by decide) (ce_M_update hN) rfl rfl tw_663 tw_665 tw_28 (by decide +kernel) rfl) ?_
  refine am_all.c (s_iload (by decide +kernel) rfl) ?_
  refine am_all.c (s_iret (by decide +kernel) rfl) ?_
  exact trivial
set_option maxRecDepth 20000 in
theorem ga_M_criterion {D : va_G} {dA : Nat → ClassId} {h b L : Nat} {xs : Nat → Int32} (hN : am_nN (am_En D dA h b L xs)) : am_all (am_En D dA h b L xs) mv_tb mv_P tM_criterion kM_criterion := by
  unfold kM_criterion
  refine am_all.c (s_iload_n (kf := 1) (by decide +kernel) rfl rfl) ?_
  refine am_all.c (s_iconst (by decide +kernel) (by decide) rfl) ?_
  refine am_all.c (s_bipush (by decide +kernel) (by decide +kernel) (by decide) rfl) ?_
  refine am_all.c (s_callS (by decide) (ce_M_in hN) tw_620 tw_621 (by decide +kernel) rfl) ?_
  refine am_all.c (s_if_ne (off := 5) (by decide +kernel) (by decide) rfl) ?_
  refine am_all.c (s_iconst (by decide +kernel) (by decide) rfl) ?_
  refine am_all.c (s_iret (by decide +kernel) rfl) ?_
  refine am_all.c (s_aload_n (kf := 0) (by decide +kernel) rfl rfl) ?_
  refine am_all.c (s_get (C := cn_M) (Tf := ft_M) (N := 21) rfl fi_M (by decide) tw_567 (by decide +kernel) rfl) ?_
  refine am_all.c (s_bipush (by decide +kernel) (by decide +kernel) (by decide) rfl) ?_
  refine am_all.c (s_icmp_ne (off := 6) (by decide +kernel) (by decide) rfl) ?_
  refine am_all.c (s_bipush (by decide +kernel) (by decide +kernel) (by decide) rfl) ?_
  refine am_all.c (s_iret (by decide +kernel) rfl) ?_
  refine am_all.c (s_aload_n (kf := 0) (by decide +kernel) rfl rfl) ?_
  refine am_all.c (s_get (C := cn_M) (Tf := ft_M) (N := 21) rfl fi_M (by decide) tw_568 (by decide +kernel) rfl) ?_
  refine am_all.c (s_iconst (by decide +kernel) (by decide) rfl) ?_
  refine am_all.c (s_aload_n (kf := 0) (by decide +kernel) rfl rfl) ?_
  refine am_all.c (s_get (C := cn_M) (Tf := ft_M) (N := 21) rfl fi_M (by decide) tw_567 (by decide +kernel) rfl) ?_
  refine am_all.c (s_imul (by decide +kernel) rfl) ?_
  refine am_all.c (s_iload_n (kf := 1) (by decide +kernel) rfl rfl) ?_
  refine am_all.c (s_iast rfl (by decide +kernel) rfl) ?_
  refine am_all.c (s_aload_n (kf := 0) (by decide +kernel) rfl rfl) ?_
  refine am_all.c (s_get (C := cn_M) (Tf := ft_M) (N := 21) rfl fi_M (by decide) tw_568 (by decide +kernel) rfl) ?_
  refine am_all.c (s_iconst (by decide +kernel) (by decide) rfl) ?_
  refine am_all.c (s_aload_n (kf := 0) (by decide +kernel) rfl rfl) ?_
  refine am_all.c (s_get (C := cn_M) (Tf := ft_M) (N := 21) rfl fi_M (by decide) tw_567 (by decide +kernel) rfl) ?_
  refine am_all.c (s_imul (by decide +kernel) rfl) ?_
  refine am_all.c (s_iconst (by decide +kernel) (by decide) rfl) ?_
  refine am_all.c (s_iadd (by decide +kernel) rfl) ?_
  refine am_all.c (s_iload_n (kf := 2) (by decide +kernel) rfl rfl) ?_
  refine am_all.c (s_iast rfl (by decide +kernel) rfl) ?_
  refine am_all.c (s_aload_n (kf := 0) (by decide +kernel) rfl rfl) ?_
  refine am_all.c (s_get (C := cn_M) (Tf := ft_M) (N := 21) rfl fi_M (by decide) tw_568 (by decide +kernel) rfl) ?_
  refine am_all.c (s_iconst (by decide +kernel) (by decide) rfl) ?_
  refine am_all.c (s_aload_n (kf := 0) (by decide +kernel) rfl rfl) ?_
  refine am_all.c (s_get (C := cn_M) (Tf := ft_M) (N := 21) rfl fi_M (by decide) tw_567 (by decide +kernel) rfl) ?_
  refine am_all.c (s_imul (by decide +kernel) rfl) ?_
  refine am_all.c (s_iconst (by decide +kernel) (by decide) rfl) ?_
  refine am_all.c (s_iadd (by decide +kernel) rfl) ?_
  refine am_all.c (s_iload_n (kf := 3) (by decide +kernel) rfl rfl) ?_
  refine am_all.c (s_iast rfl (by decide +kernel) rfl) ?_
  refine am_all.c (s_aload_n (kf := 0) (by decide +kernel) rfl rfl) ?_
  refine am_all.c (s_dup (by decide +kernel) rfl) ?_
  refine am_all.c (s_get (C := cn_M) (Tf := ft_M) (N := 21) rfl fi_M (by decide) tw_567 (by decide +kernel) rfl) ?_
  refine am_all.c (s_iconst (by decide +kernel) (by decide) rfl) ?_
  refine am_all.c (s_iadd (by decide +kernel) rfl) ?_
  refine am_all.c (s_put (C := cn_M) (Tf := ft_M) (N := 21) (ty := .int) rfl fi_M fy_M fo_M fn_M (by decide) tw_567 (Or.inl rfl) (by decide +kernel) (Or.inl ⟨rfl, rfl⟩) (by decide +kernel) rfl) ?_
  refine am_all.c (s_aload_n (kf := 0) (by decide +kernel) rfl rfl) ?_
  refine am_all.c (s_get (C := cn_M) (Tf := ft_M) (N := 21) rfl fi_M (by decide) tw_567 (by decide +kernel) rfl) ?_
  refine am_all.c (s_iret (by decide +kernel) rfl) ?_
  exact trivial
set_option maxRecDepth 20000 in
theorem ga_M_parts {D : va_G} {dA : Nat → ClassId} {h b L : Nat} {xs : Nat → Int32} (hN : am_nN (am_En D dA h b L xs)) : am_all (am_En D dA h b L xs) mv_tb mv_P tM_parts kM_parts := by
  unfold kM_parts
  refine am_all.c (s_aload_n (kf := 0) (by decide +kernel) rfl rfl) ?_
  refine am_all.c (s_get (C := cn_M) (Tf := ft_M) (N := 21) rfl fi_M (by decide) tw_568 (by decide +kernel) rfl) ?_
  refine am_all.c (s_iconst (by decide +kernel) (by decide) rfl) ?_
  refine am_all.c (s_iload_n (kf := 1) (by decide +kernel) rfl rfl) ?_
  refine am_all.c (s_imul (by decide +kernel) rfl) ?_
  refine am_all.c (s_iald rfl (by decide +kernel) rfl) ?_
  refine am_all.c (s_istore_n (kf := 2) (by decide +kernel) rfl rfl) ?_
  refine am_all.c (s_iload_n (kf := 2) (by decide +kernel) rfl rfl) ?_
  refine am_all.c (s_bipush (by decide +kernel) (by decide +kernel) (by decide) rfl) ?_
  refine am_all.c (s_icmp_ge (off := 7) (by decide +kernel) (by decide) rfl) ?_
  refine am_all.c (s_iconst (by decide +kernel) (by decide) rfl) ?_
  refine am_all.c (s_goto (off := 14) (by decide +kernel) (by decide)) ?_
  refine am_all.c (s_iload_n (kf := 2) (by decide +kernel) rfl rfl) ?_
  refine am_all.c (s_bipush (by decide +kernel) (by decide +kernel) (by decide) rfl) ?_
  refine am_all.c (s_icmp_ne (off := 7) (by decide +kernel) (by decide) rfl) ?_
  refine am_all.c (s_iconst (by decide +kernel) (by decide) rfl) ?_
  refine am_all.c (s_goto (off := 4) (by decide +kernel) (by decide)) ?_
  refine am_all.c (s_iconst (by decide +kernel) (by decide) rfl) ?_
  refine am_all.c (s_iret (by decide +kernel) rfl) ?_
  exact trivial
set_option maxRecDepth 20000 in
theorem ga_M_good {D : va_G} {dA : Nat → ClassId} {h b L : Nat} {xs : Nat → Int32} (hN : am_nN (am_En D dA h b L xs)) : am_all (am_En D dA h b L xs) mv_tb mv_P tM_good kM_good := by
  unfold kM_good
  refine am_all.c (s_iconst (by decide +kernel) (by decide) rfl) ?_
  refine am_all.c (s_istore_n (kf := 1) (by decide +kernel) rfl rfl) ?_
  refine am_all.c (s_iconst (by decide +kernel) (by decide) rfl) ?_
  refine am_all.c (s_istore_n (kf := 2) (by decide +kernel) rfl rfl) ?_
  refine am_all.c (s_iload_n (kf := 2) (by decide +kernel) rfl rfl) ?_
  refine am_all.c (s_aload_n (kf := 0) (by decide +kernel) rfl rfl) ?_
  refine am_all.c (s_get (C := cn_M) (Tf := ft_M) (N := 21) rfl fi_M (by decide) tw_567 (by decide +kernel) rfl) ?_
  refine am_all.c (s_icmp_ge (off := 75) (by decide +kernel) (by decide) rfl) ?_
  refine am_all.c (s_iload_n (kf := 2) (by decide +kernel) rfl rfl) ?_
  refine am_all.c (s_if_le (off := 7) (by decide +kernel) (by decide) rfl) ?_
  refine am_all.c (s_iload_n (kf := 1) (by decide +kernel) rfl rfl) ?_
  refine am_all.c (s_if_eq (off := 8) (by decide +kernel) (by decide) rfl) ?_
  refine am_all.c (s_iload_n (kf := 1) (by decide +kernel) rfl rfl) ?_
  refine am_all.c (s_iconst (by decide +kernel) (by decide) rfl) ?_
  refine am_all.c (s_icmp_le (off := 5) (by decide +kernel) (by decide) rfl) ?_
  refine am_all.c (s_iconst (by decide +kernel) (by decide) rfl) ?_
  refine am_all.c (s_zret (by decide +kernel) rfl) ?_
  refine am_all.c (s_aload_n (kf := 0) (by decide +kernel) rfl rfl) ?_
  refine am_all.c (s_get (C := cn_M) (Tf := ft_M) (N := 21) rfl fi_M (by decide) tw_572 (by decide +kernel) rfl) ?_
  refine am_all.c (s_iload_n (kf := 1) (by decide +kernel) rfl rfl) ?_
  refine am_all.c (s_aload_n (kf := 0) (by decide +kernel) rfl rfl) ?_
  refine am_all.c (s_iload_n (kf := 2) (by decide +kernel) rfl rfl) ?_
  refine am_all.c (s_callV (q := (cn_M, ft_M, 21)) (by decide) (ce_M_parts hN) rfl rfl tw_719 tw_721 tw_36 (by decide +kernel) rfl) ?_
  refine am_all.c (s_iast rfl (by decide +kernel) rfl) ?_
  refine am_all.c (s_iinc (by decide +kernel) rfl) ?_
  refine am_all.c (s_iload_n (kf := 1) (by decide +kernel) rfl rfl) ?_
  refine am_all.c (s_if_le (off := 36) (by decide +kernel) (by decide) rfl) ?_
  refine am_all.c (s_aload_n (kf := 0) (by decide +kernel) rfl rfl) ?_
  refine am_all.c (s_get (C := cn_M) (Tf := ft_M) (N := 21) rfl fi_M (by decide) tw_572 (by decide +kernel) rfl) ?_
  refine am_all.c (s_iload_n (kf := 1) (by decide +kernel) rfl rfl) ?_
  refine am_all.c (s_iconst (by decide +kernel) (by decide) rfl) ?_
  refine am_all.c (s_isub (by decide +kernel) rfl) ?_
  refine am_all.c (s_iald rfl (by decide +kernel) rfl) ?_
  refine am_all.c (s_if_ne (off := 25) (by decide +kernel) (by decide) rfl) ?_
  refine am_all.c (s_iinc (by decide +kernel) rfl) ?_
  refine am_all.c (s_iload_n (kf := 1) (by decide +kernel) rfl rfl) ?_
  refine am_all.c (s_if_le (off := -19) (by decide +kernel) (by decide) rfl) ?_
  refine am_all.c (s_aload_n (kf := 0) (by decide +kernel) rfl rfl) ?_
  refine am_all.c (s_get (C := cn_M) (Tf := ft_M) (N := 21) rfl fi_M (by decide) tw_572 (by decide +kernel) rfl) ?_
  refine am_all.c (s_iload_n (kf := 1) (by decide +kernel) rfl rfl) ?_
  refine am_all.c (s_iconst (by decide +kernel) (by decide) rfl) ?_
  refine am_all.c (s_isub (by decide +kernel) rfl) ?_
  refine am_all.c (s_dup2 (by decide +kernel) rfl) ?_
  refine am_all.c (s_iald rfl (by decide +kernel) rfl) ?_
  refine am_all.c (s_iconst (by decide +kernel) (by decide) rfl) ?_
  refine am_all.c (s_isub (by decide +kernel) rfl) ?_
  refine am_all.c (s_iast rfl (by decide +kernel) rfl) ?_
  refine am_all.c (s_goto (off := -34) (by decide +kernel) (by decide)) ?_
  refine am_all.c (s_iinc (by decide +kernel) rfl) ?_
  refine am_all.c (s_goto (off := -77) (by decide +kernel) (by decide)) ?_
  refine am_all.c (s_aload_n (kf := 0) (by decide +kernel) rfl rfl) ?_
  refine am_all.c (s_get (C := cn_M) (Tf := ft_M) (N := 21) rfl fi_M (by decide) tw_567 (by decide +kernel) rfl) ?_
  refine am_all.c (s_if_le (off := 11) (by decide +kernel) (by decide) rfl) ?_
  refine am_all.c (s_iload_n (kf := 1) (by decide +kernel) rfl rfl) ?_
  refine am_all.c (s_if_ne (off := 7) (by decide +kernel) (by decide) rfl) ?_
  refine am_all.c (s_iconst (by decide +kernel) (by decide) rfl) ?_
  refine am_all.c (s_goto (off := 4) (by decide +kernel) (by decide)) ?_
  refine am_all.c (s_iconst (by decide +kernel) (by decide) rfl) ?_
  refine am_all.c (s_zret (by decide +kernel) rfl) ?_
  exact trivial
set_option maxRecDepth 20000 in
theorem ga_M_leaf {D : va_G} {dA : Nat → ClassId} {h b L : Nat} {xs : Nat → Int32} (hN : am_nN (am_En D dA h b L xs)) : am_all (am_En D dA h b L xs) mv_tb mv_P tM_leaf kM_leaf := by
  unfold kM_leaf
  refine am_all.c (s_aload_n (kf := 0) (by decide +kernel) rfl rfl) ?_
  refine am_all.c (s_get (C := cn_M) (Tf := ft_M) (N := 21) rfl fi_M (by decide) tw_559 (by decide +kernel) rfl) ?_
  refine am_all.c (s_iload_n (kf := 2) (by decide +kernel) rfl rfl) ?_
  refine am_all.c (s_iald rfl (by decide +kernel) rfl) ?_
  refine am_all.c (s_istore (by decide +kernel) rfl) ?_
  refine am_all.c (s_aload_n (kf := 0) (by decide +kernel) rfl rfl) ?_
  refine am_all.c (s_iload_n (kf := 2) (by decide +kernel) rfl rfl) ?_
  refine am_all.c (s_iload_n (kf := 3) (by decide +kernel) rfl rfl) ?_
  refine am_all.c (s_callV (q := (cn_M, ft_M, 21)) (by decide) (ce_M_uidOf hN) rfl rfl tw_671 tw_673 tw_30 (by decide +kernel) rfl) ?_
  refine am_all.c (s_istore (by decide +kernel) rfl) ?_
  refine am_all.c (s_bipush (by decide +kernel) (by decide +kernel) (by decide) rfl) ?_
  refine am_all.c (s_iload (by decide +kernel) rfl) ?_
  refine am_all.c (s_imul (by decide +kernel) rfl) ?_
  refine am_all.c (s_iconst (by decide +kernel) (by decide) rfl) ?_
  refine am_all.c (s_aload_n (kf := 0) (by decide +kernel) rfl rfl) ?_
  refine am_all.c (s_iload (by decide +kernel) rfl) ?_
  refine am_all.c (s_iload (by decide +kernel) rfl) ?_
  refine am_all.c (s_callV (q := (cn_M, ft_M, 21)) (by decide) (ce_M_place hN) rfl rfl tw_635 tw_637 tw_24 (by decide +kernel) rfl) ?_
  refine am_all.c (s_imul (by decide +kernel) rfl) ?_
  refine am_all.c (s_iadd (by decide +kernel) rfl) ?_
  refine am_all.c (s_istore (by decide +kernel) rfl) ?_
  refine am_all.c (s_aload_n (kf := 0) (by decide +kernel) rfl rfl) ?_
  refine am_all.c (s_get (C := cn_M) (Tf := ft_M) (N := 21) rfl fi_M (by decide) tw_568 (by decide +kernel) rfl) ?_
  refine am_all.c (s_iconst (by decide +kernel) (by decide) rfl) ?_
  refine am_all.c (s_iload_n (kf := 1) (by decide +kernel) rfl rfl) ?_
  refine am_all.c (s_imul (by decide +kernel) rfl) ?_
  refine am_all.c (s_iconst (by decide +kernel) (by decide) rfl) ?_
  refine am_all.c (s_iadd (by decide +kernel) rfl) ?_
  refine am_all.c (s_iald rfl (by decide +kernel) rfl) ?_
  refine am_all.c (s_istore (by decide +kernel) rfl) ?_
  refine am_all.c (s_aload_n (kf := 0) (by decide +kernel) rfl rfl) ?_
  refine am_all.c (s_get (C := cn_M) (Tf := ft_M) (N := 21) rfl fi_M (by decide) tw_568 (by decide +kernel) rfl) ?_
  refine am_all.c (s_iconst (by decide +kernel) (by decide) rfl) ?_
  refine am_all.c (s_iload_n (kf := 1) (by decide +kernel) rfl rfl) ?_
  refine am_all.c (s_imul (by decide +kernel) rfl) ?_
  refine am_all.c (s_iconst (by decide +kernel) (by decide) rfl) ?_
  refine am_all.c (s_iadd (by decide +kernel) rfl) ?_
  refine am_all.c (s_iald rfl (by decide +kernel) rfl) ?_
  refine am_all.c (s_istore (by decide +kernel) rfl) ?_
  refine am_all.c (s_aload_n (kf := 0) (by decide +kernel) rfl rfl) ?_
  refine am_all.c (s_get (C := cn_M) (Tf := ft_M) (N := 21) rfl fi_M (by decide) tw_568 (by decide +kernel) rfl) ?_
  refine am_all.c (s_iconst (by decide +kernel) (by decide) rfl) ?_
  refine am_all.c (s_iload_n (kf := 1) (by decide +kernel) rfl rfl) ?_
  refine am_all.c (s_imul (by decide +kernel) rfl) ?_
  refine am_all.c (s_iald rfl (by decide +kernel) rfl) ?_
  refine am_all.c (s_tsw (dflt := 114) (lo := 1) (hi := 5) (offs := #[34, 55, 75, 95, 105]) (len := 34) (by decide +kernel) (by decide) (by decide) (am_tsc (by decide))) ?_
  refine am_all.c (s_aload_n (kf := 0) (by decide +kernel) rfl rfl) ?_
  refine am_all.c (s_get (C := cn_M) (Tf := ft_M) (N := 21) rfl fi_M (by decide) tw_556 (by decide +kernel) rfl) ?_
  refine am_all.c (s_iload (by decide +kernel) rfl) ?_
  refine am_all.c (s_iconst (by decide +kernel) (by decide) rfl) ?_
  refine am_all.c (s_iadd (by decide +kernel) rfl) ?_
  refine am_all.c (s_iald rfl (by decide +kernel) rfl) ?_
  refine am_all.c (s_iload (by decide +kernel) rfl) ?_
  refine am_all.c (s_iand (by decide +kernel) rfl) ?_
  refine am_all.c (s_if_eq (off := 7) (by decide +kernel) (by decide) rfl) ?_
  refine am_all.c (s_iconst (by decide +kernel) (by decide) rfl) ?_
  refine am_all.c (s_goto (off := 4) (by decide +kernel) (by decide)) ?_
  refine am_all.c (s_iconst (by decide +kernel) (by decide) rfl) ?_
  refine am_all.c (s_zret (by decide +kernel) rfl) ?_
  refine am_all.c (s_aload_n (kf := 0) (by decide +kernel) rfl rfl) ?_
  refine am_all.c (s_get (C := cn_M) (Tf := ft_M) (N := 21) rfl fi_M (by decide) tw_556 (by decide +kernel) rfl) ?_
  refine am_all.c (s_iload (by decide +kernel) rfl) ?_
  refine am_all.c (s_iconst (by decide +kernel) (by decide) rfl) ?_
  refine am_all.c (s_iadd (by decide +kernel) rfl) ?_
  refine am_all.c (s_iald rfl (by decide +kernel) rfl) ?_
  refine am_all.c (s_iload (by decide +kernel) rfl) ?_
  refine am_all.c (s_icmp_le (off := 7) (by decide +kernel) (by decide) rfl) ?_
  refine am_all.c (s_iconst (by decide +kernel) (by decide) rfl) ?_
  refine am_all.c (s_goto (off := 4) (by decide +kernel) (by decide)) ?_
  refine am_all.c (s_iconst (by decide +kernel) (by decide) rfl) ?_
  refine am_all.c (s_zret (by decide +kernel) rfl) ?_
  refine am_all.c (s_aload_n (kf := 0) (by decide +kernel) rfl rfl) ?_
  refine am_all.c (s_get (C := cn_M) (Tf := ft_M) (N := 21) rfl fi_M (by decide) tw_556 (by decide +kernel) rfl) ?_
  refine am_all.c (s_iload (by decide +kernel) rfl) ?_
  refine am_all.c (s_iconst (by decide +kernel) (by decide) rfl) ?_
  refine am_all.c (s_iadd (by decide +kernel) rfl) ?_
  refine am_all.c (s_iald rfl (by decide +kernel) rfl) ?_
  refine am_all.c (s_iload (by decide +kernel) rfl) ?_
  refine am_all.c (s_icmp_ge (off := 7) (by decide +kernel) (by decide) rfl) ?_
  refine am_all.c (s_iconst (by decide +kernel) (by decide) rfl) ?_
  refine am_all.c (s_goto (off := 4) (by decide +kernel) (by decide)) ?_
  refine am_all.c (s_iconst (by decide +kernel) (by decide) rfl) ?_
  refine am_all.c (s_zret (by decide +kernel) rfl) ?_
  refine am_all.c (s_iload (by decide +kernel) rfl) ?_
  refine am_all.c (s_iload (by decide +kernel) rfl) ?_
  refine am_all.c (s_iload (by decide +kernel) rfl) ?_
  refine am_all.c (s_callS (by decide) (ce_M_in hN) tw_620 tw_621 (by decide +kernel) rfl) ?_
  refine am_all.c (s_zret (by decide +kernel) rfl) ?_
  refine am_all.c (s_iload_n (kf := 3) (by decide +kernel) rfl rfl) ?_
  refine am_all.c (s_iload (by decide +kernel) rfl) ?_
  refine am_all.c (s_iload (by decide +kernel) rfl) ?_
  refine am_all.c (s_callS (by decide) (ce_M_in hN) tw_620 tw_621 (by decide +kernel) rfl) ?_
  refine am_all.c (s_zret (by decide +kernel) rfl) ?_
  refine am_all.c (s_iconst (by decide +kernel) (by decide) rfl) ?_
  refine am_all.c (s_zret (by decide +kernel) rfl) ?_
  exact trivial
set_option maxRecDepth 20000 in
theorem ga_M_fulfils {D : va_G} {dA : Nat → ClassId} {h b L : Nat} {xs : Nat → Int32} (hN : am_nN (am_En D dA h b L xs)) : am_all (am_En D dA h b L xs) mv_tb mv_P tM_fulfils kM_fulfils := by
  unfold kM_fulfils
  refine am_all.c (s_iconst (by decide +kernel) (by decide) rfl) ?_
  refine am_all.c (s_istore_n (kf := 3) (by decide +kernel) rfl rfl) ?_
  refine am_all.c (s_aload_n (kf := 0) (by decide +kernel) rfl rfl) ?_
  refine am_all.c (s_get (C := cn_M) (Tf := ft_M) (N := 21) rfl fi_M (by decide) tw_567 (by decide +kernel) rfl) ?_
  refine am_all.c (s_iconst (by decide +kernel) (by decide) rfl) ?_
  refine am_all.c (s_isub (by decide +kernel) rfl) ?_
  refine am_all.c (s_istore (by decide +kernel) rfl) ?_
  refine am_all.c (s_iload (by decide +kernel) rfl) ?_
  refine am_all.c (s_if_lt (off := 150) (by decide +kernel) (by decide) rfl) ?_
  refine am_all.c (s_aload_n (kf := 0) (by decide +kernel) rfl rfl) ?_
  refine am_all.c (s_get (C := cn_M) (Tf := ft_M) (N := 21) rfl fi_M (by decide) tw_568 (by decide +kernel) rfl) ?_
  refine am_all.c (s_iconst (by decide +kernel) (by decide) rfl) ?_
  refine am_all.c (s_iload (by decide +kernel) rfl) ?_
  refine am_all.c (s_imul (by decide +kernel) rfl) ?_
  refine am_all.c (s_iald rfl (by decide +kernel) rfl) ?_
  refine am_all.c (s_istore (by decide +kernel) rfl) ?_
  refine am_all.c (s_iload (by decide +kernel) rfl) ?_
  refine am_all.c (s_bipush (by decide +kernel) (by decide +kernel) (by decide) rfl) ?_
  refine am_all.c (s_icmp_ge (off := 23) (by decide +kernel) (by decide) rfl) ?_
  refine am_all.c (s_aload_n (kf := 0) (by decide +kernel) rfl rfl) ?_
  refine am_all.c (s_get (C := cn_M) (Tf := ft_M) (N := 21) rfl fi_M (by decide) tw_571 (by decide +kernel) rfl) ?_
  refine am_all.c (s_iload_n (kf := 3) (by decide +kernel) rfl rfl) ?_
  refine am_all.c (s_aload_n (kf := 0) (by decide +kernel) rfl rfl) ?_
  refine am_all.c (s_iload (by decide +kernel) rfl) ?_
  refine am_all.c (s_iload_n (kf := 1) (by decide +kernel) rfl rfl) ?_
  refine am_all.c (s_iload_n (kf := 2) (by decide +kernel) rfl rfl) ?_
  refine am_all.c (s_callV (q := (cn_M, ft_M, 21)) (by decide) (ce_M_leaf hN) rfl rfl tw_727 tw_729 tw_38 (by decide +kernel) rfl) ?_
  refine am_all.c (s_zast rfl (by decide +kernel) rfl) ?_
  refine am_all.c (s_iinc (by decide +kernel) rfl) ?_
  refine am_all.c (s_goto (off := 106) (by decide +kernel) (by decide)) ?_
  refine am_all.c (s_iload (by decide +kernel) rfl) ?_
  refine am_all.c (s_bipush (by decide +kernel) (by decide +kernel) (by decide) rfl) ?_
  refine am_all.c (s_icmp_ne (off := 30) (by decide +kernel) (by decide) rfl) ?_
  refine am_all.c (s_aload_n (kf := 0) (by decide +kernel) rfl rfl) ?_
  refine am_all.c (s_get (C := cn_M) (Tf := ft_M) (N := 21) rfl fi_M (by decide) tw_571 (by decide +kernel) rfl) ?_
  refine am_all.c (s_iload_n (kf := 3) (by decide +kernel) rfl rfl) ?_
  refine am_all.c (s_iconst (by decide +kernel) (by decide) rfl) ?_
  refine am_all.c (s_isub (by decide +kernel) rfl) ?_
  refine am_all.c (s_aload_n (kf := 0) (by decide +kernel) rfl rfl) ?_
  refine am_all.c (s_get (C := cn_M) (Tf := ft_M) (N := 21) rfl fi_M (by decide) tw_571 (by decide +kernel) rfl) ?_
  refine am_all.c (s_iload_n (kf := 3) (by decide +kernel) rfl rfl) ?_
  refine am_all.c (s_iconst (by decide +kernel) (by decide) rfl) ?_
  refine am_all.c (s_isub (by decide +kernel) rfl) ?_
  refine am_all.c (s_zald rfl (by decide +kernel) rfl) ?_
  refine am_all.c (s_if_ne (off := 7) (by decide +kernel) (by decide) rfl) ?_
  refine am_all.c (s_iconst (by decide +kernel) (by decide) rfl) ?_
  refine am_all.c (s_goto (off := 4) (by decide +kernel) (by decide)) ?_
  refine am_all.c (s_iconst (by decide +kernel) (by decide) rfl) ?_
  refine am_all.c (s_zast rfl (by decide +kernel) rfl) ?_
  refine am_all.c (s_goto (off := 72) (by decide +kernel) (by decide)) ?_
  refine am_all.c (s_iinc (by decide +kernel) rfl) ?_
  refine am_all.c (s_aload_n (kf := 0) (by decide +kernel) rfl rfl) ?_
  refine am_all.c (s_get (C := cn_M) (Tf := ft_M) (N := 21) rfl fi_M (by decide) tw_571 (by decide +kernel) rfl) ?_
  refine am_all.c (s_iload_n (kf := 3) (by decide +kernel) rfl rfl) ?_
  refine am_all.c (s_zald rfl (by decide +kernel) rfl) ?_
  refine am_all.c (s_istore (by decide +kernel) rfl) ?_
  refine am_all.c (s_aload_n (kf := 0) (by decide +kernel) rfl rfl) ?_
  refine am_all.c (s_get (C := cn_M) (Tf := ft_M) (N := 21) rfl fi_M (by decide) tw_571 (by decide +kernel) rfl) ?_
  refine am_all.c (s_iload_n (kf := 3) (by decide +kernel) rfl rfl) ?_
  refine am_all.c (s_iconst (by decide +kernel) (by decide) rfl) ?_
  refine am_all.c (s_isub (by decide +kernel) rfl) ?_
  refine am_all.c (s_zald rfl (by decide +kernel) rfl) ?_
  refine am_all.c (s_istore (by decide +kernel) rfl) ?_
  refine am_all.c (s_aload_n (kf := 0) (by decide +kernel) rfl rfl) ?_
  refine am_all.c (s_get (C := cn_M) (Tf := ft_M) (N := 21) rfl fi_M (by decide) tw_571 (by decide +kernel) rfl) ?_
  refine am_all.c (s_iload_n (kf := 3) (by decide +kernel) rfl rfl) ?_
  refine am_all.c (s_iconst (by decide +kernel) (by decide) rfl) ?_
  refine am_all.c (s_isub (by decide +kernel) rfl) ?_
  refine am_all.c (s_iload (by decide +kernel) rfl) ?_
  refine am_all.c (s_bipush (by decide +kernel) (by decide +kernel) (by decide) rfl) ?_
  refine am_all.c (s_icmp_ne (off := 21) (by decide +kernel) (by decide) rfl) ?_
  refine am_all.c (s_iload (by decide +kernel) rfl) ?_
  refine am_all.c (s_if_eq (off := 12) (by decide +kernel) (by decide) rfl) ?_
  refine am_all.c (s_iload (by decide +kernel) rfl) ?_
  refine am_all.c (s_if_eq (off := 7) (by decide +kernel) (by decide) rfl) ?_
  refine am_all.c (s_iconst (by decide +kernel) (by decide) rfl) ?_
  refine am_all.c (s_goto (off := 22) (by decide +kernel) (by decide)) ?_
  refine am_all.c (s_iconst (by decide +kernel) (by decide) rfl) ?_
  refine am_all.c (s_goto (off := 18) (by decide +kernel) (by decide)) ?_
  refine am_all.c (s_iload (by decide +kernel) rfl) ?_
  refine am_all.c (s_if_ne (off := 8) (by decide +kernel) (by decide) rfl) ?_
  refine am_all.c (s_iload (by decide +kernel) rfl) ?_
  refine am_all.c (s_if_eq (off := 7) (by decide +kernel) (by decide) rfl) ?_
  refine am_all.c (s_iconst (by decide +kernel) (by decide) rfl) ?_
  refine am_all.c (s_goto (off := 4) (by decide +kernel) (by decide)) ?_
  refine am_all.c (s_iconst (by decide +kernel) (by decide) rfl) ?_
  refine am_all.c (s_zast rfl (by decide +kernel) rfl) ?_
  refine am_all.c (s_iinc (by decide +kernel) rfl) ?_
  refine am_all.c (s_goto (off := -149) (by decide +kernel) (by decide)) ?_
  refine am_all.c (s_aload_n (kf := 0) (by decide +kernel) rfl rfl) ?_
  refine am_all.c (s_get (C := cn_M) (Tf := ft_M) (N := 21) rfl fi_M (by decide) tw_571 (by decide +kernel) rfl) ?_
  refine am_all.c (s_iconst (by decide +kernel) (by decide) rfl) ?_
  refine am_all.c (s_zald rfl (by decide +kernel) rfl) ?_
  refine am_all.c (s_zret (by decide +kernel) rfl) ?_
  exact trivial
set_option maxRecDepth 20000 in
theorem ga_M_search {D : va_G} {dA : Nat → ClassId} {h b L : Nat} {xs : Nat → Int32} (hN : am_nN (am_En D dA h b L xs)) : am_all (am_En D dA h b L xs) mv_tb mv_P tM_search kM_search := by
  unfold kM_search
  refine am_all.c (s_aload_n (kf := 0) (by decide +kernel) rfl rfl) ?_
  refine am_all.c (s_iload_n (kf := 1) (by decide +kernel) rfl rfl) ?_
  refine am_all.c (s_callV (q := (cn_M, ft_M, 21)) (by decide) (ce_M_none hN) rfl rfl tw_651 tw_653 tw_26 (by decide +kernel) rfl) ?_
  refine am_all.c (s_if_eq (off := 5) (by decide +kernel) (by decide) rfl) ?_
  refine am_all.c (s_iconst (by decide +kernel) (by decide) rfl) ?_
  refine am_all.c (s_iret (by decide +kernel) rfl) ?_
  refine am_all.c (s_aload_n (kf := 0) (by decide +kernel) rfl rfl) ?_
  refine am_all.c (s_callV (q := (cn_M, ft_M, 21)) (by decide) (ce_M_good hN) rfl rfl tw_715 tw_717 tw_35 (by decide +kernel) rfl) ?_
  refine am_all.c (s_istore_n (kf := 2) (by decide +kernel) rfl rfl) ?_
  refine am_all.c (s_iload_n (kf := 2) (by decide +kernel) rfl rfl) ?_
  refine am_all.c (s_if_eq (off := 73) (by decide +kernel) (by decide) rfl) ?_
  refine am_all.c (s_aload_n (kf := 0) (by decide +kernel) rfl rfl) ?_
  refine am_all.c (s_iconst (by decide +kernel) (by decide) rfl) ?_
  refine am_all.c (s_put (C := cn_M) (Tf := ft_M) (N := 21) (ty := .int) rfl fi_M fy_M fo_M fn_M (by decide) tw_569 (Or.inl rfl) (by decide +kernel) (Or.inl ⟨rfl, rfl⟩) (by decide +kernel) rfl) ?_
  refine am_all.c (s_iconst (by decide +kernel) (by decide) rfl) ?_
  refine am_all.c (s_istore_n (kf := 3) (by decide +kernel) rfl rfl) ?_
  refine am_all.c (s_iload_n (kf := 3) (by decide +kernel) rfl rfl) ?_
  refine am_all.c (s_aload_n (kf := 0) (by decide +kernel) rfl rfl) ?_
  refine am_all.c (s_get (C := cn_M) (Tf := ft_M) (N := 21) rfl fi_M (by decide) tw_561 (by decide +kernel) rfl) ?_
  refine am_all.c (s_iload_n (kf := 1) (by decide +kernel) rfl rfl) ?_
  refine am_all.c (s_iald rfl (by decide +kernel) rfl) ?_
  refine am_all.c (s_icmp_gt (off := 50) (by decide +kernel) (by decide) rfl) ?_
  refine am_all.c (s_aload_n (kf := 0) (by decide +kernel) rfl rfl) ?_
  refine am_all.c (s_iload_n (kf := 1) (by decide +kernel) rfl rfl) ?_
  refine am_all.c (s_iload_n (kf := 3) (by decide +kernel) rfl rfl) ?_
  refine am_all.c (s_callV (q := (cn_M, ft_M, 21)) (by decide) (ce_M_gone hN) rfl rfl tw_667 tw_669 tw_29 (by decide +kernel) rfl) ?_
  refine am_all.c (s_if_ne (off := 35) (by decide +kernel) (by decide) rfl) ?_
  refine am_all.c (s_aload_n (kf := 0) (by decide +kernel) rfl rfl) ?_
  refine am_all.c (s_iload_n (kf := 1) (by decide +kernel) rfl rfl) ?_
  refine am_all.c (s_iload_n (kf := 3) (by decide +kernel) rfl rfl) ?_
  refine am_all.c (s_callV (q := (cn_M, ft_M, 21)) (by decide) (ce_M_fulfils hN) rfl rfl tw_723 tw_725 tw_37 (by decide +kernel) rfl) ?_
  refine am_all.c (s_if_ne (off := 6) (by decide +kernel) (by decide) rfl) ?_
  refine am_all.c (s_goto (off := 23) (by decide +kernel) (by decide)) ?_
  refine am_all.c (s_aload_n (kf := 0) (by decide +kernel) rfl rfl) ?_
  refine am_all.c (s_get (C := cn_M) (Tf := ft_M) (N := 21) rfl fi_M (by decide) tw_570 (by decide +kernel) rfl) ?_
  refine am_all.c (s_aload_n (kf := 0) (by decide +kernel) rfl rfl) ?_
  refine am_all.c (s_get (C := cn_M) (Tf := ft_M) (N := 21) rfl fi_M (by decide) tw_569 (by decide +kernel) rfl) ?_
  refine am_all.c (s_iload_n (kf := 3) (by decide +kernel) rfl rfl) ?_
  refine am_all.c (s_iast rfl (by decide +kernel) rfl) ?_
  refine am_all.c (s_aload_n (kf := 0) (by decide +kernel) rfl rfl) ?_
  refine am_all.c (s_dup (by decide +kernel) rfl) ?_
  refine am_all.c (s_get (C := cn_M) (Tf := ft_M) (N := 21) rfl fi_M (by decide) tw_569 (by decide +kernel) rfl) ?_
  refine am_all.c (s_iconst (by decide +kernel) (by decide) rfl) ?_
  refine am_all.c (s_iadd (by decide +kernel) rfl) ?_
  refine am_all.c (s_put (C := cn_M) (Tf := ft_M) (N := 21) (ty := .int) rfl fi_M fy_M fo_M fn_M (by decide) tw_569 (Or.inl rfl) (by decide +kernel) (Or.inl ⟨rfl, rfl⟩) (by decide +kernel) rfl) ?_
  refine am_all.c (s_iinc (by decide +kernel) rfl) ?_
  refine am_all.c (s_goto (off := -54) (by decide +kernel) (by decide)) ?_
  refine am_all.c (s_aload_n (kf := 0) (by decide +kernel) rfl rfl) ?_
  refine am_all.c (s_iload_n (kf := 1) (by decide +kernel) rfl rfl) ?_
  refine am_all.c (s_iconst (by decide +kernel) (by decide) rfl) ?_
  refine am_all.c (s_callV (q := (cn_M, ft_M, 21)) (by decide) (ce_M_update hN) rfl rfl tw_663 tw_665 tw_28 (by decide +kernel) rfl) ?_
  refine am_all.c (s_aload_n (kf := 0) (by decide +kernel) rfl rfl) ?_
  refine am_all.c (s_iconst (by decide +kernel) (by decide) rfl) ?_
  refine am_all.c (s_put (C := cn_M) (Tf := ft_M) (N := 21) (ty := .int) rfl fi_M fy_M fo_M fn_M (by decide) tw_567 (Or.inl rfl) (by decide +kernel) (Or.inl ⟨rfl, rfl⟩) (by decide +kernel) rfl) ?_
  refine am_all.c (s_iload_n (kf := 2) (by decide +kernel) rfl rfl) ?_
  refine am_all.c (s_if_eq (off := 10) (by decide +kernel) (by decide) rfl) ?_
  refine am_all.c (s_aload_n (kf := 0) (by decide +kernel) rfl rfl) ?_
  refine am_all.c (s_get (C := cn_M) (Tf := ft_M) (N := 21) rfl fi_M (by decide) tw_569 (by decide +kernel) rfl) ?_
  refine am_all.c (s_goto (off := 5) (by decide +kernel) (by decide)) ?_
  refine am_all.c (s_bipush (by decide +kernel) (by decide +kernel) (by decide) rfl) ?_
  refine am_all.c (s_iret (by decide +kernel) rfl) ?_
  exact trivial
set_option maxRecDepth 20000 in
theorem ga_M_found {D : va_G} {dA : Nat → ClassId} {h b L : Nat} {xs : Nat → Int32} (hN : am_nN (am_En D dA h b L xs)) : am_all (am_En D dA h b L xs) mv_tb mv_P tM_found kM_found := by
  unfold kM_found
  refine am_all.c (s_iload_n (kf := 1) (by decide +kernel) rfl rfl) ?_
  refine am_all.c (s_iconst (by decide +kernel) (by decide) rfl) ?_
  refine am_all.c (s_aload_n (kf := 0) (by decide +kernel) rfl rfl) ?_
  refine am_all.c (s_get (C := cn_M) (Tf := ft_M) (N := 21) rfl fi_M (by decide) tw_569 (by decide +kernel) rfl) ?_
  refine am_all.c (s_iconst (by decide +kernel) (by decide) rfl) ?_
  refine am_all.c (s_isub (by decide +kernel) rfl) ?_
  refine am_all.c (s_callS (by decide) (ce_M_in hN) tw_620 tw_621 (by decide +kernel) rfl) ?_
  refine am_all.c (s_if_eq (off := 12) (by decide +kernel) (by decide) rfl) ?_
  refine am_all.c (s_aload_n (kf := 0) (by decide +kernel) rfl rfl) ?_
  refine am_all.c (s_get (C := cn_M) (Tf := ft_M) (N := 21) rfl fi_M (by decide) tw_570 (by decide +kernel) rfl) ?_
  refine am_all.c (s_iload_n (kf := 1) (by decide +kernel) rfl rfl) ?_
  refine am_all.c (s_iald rfl (by decide +kernel) rfl) ?_
  refine am_all.c (s_goto (off := 4) (by decide +kernel) (by decide)) ?_
  refine am_all.c (s_iconst (by decide +kernel) (by decide) rfl) ?_
  refine am_all.c (s_iret (by decide +kernel) rfl) ?_
  exact trivial
set_option maxRecDepth 20000 in
theorem ga_M_sync {D : va_G} {dA : Nat → ClassId} {h b L : Nat} {xs : Nat → Int32} (hN : am_nN (am_En D dA h b L xs)) : am_all (am_En D dA h b L xs) mv_tb mv_P tM_sync kM_sync := by
  unfold kM_sync
  refine am_all.c (s_aload_n (kf := 0) (by decide +kernel) rfl rfl) ?_
  refine am_all.c (s_aload_n (kf := 0) (by decide +kernel) rfl rfl) ?_
  refine am_all.c (s_get (C := cn_M) (Tf := ft_M) (N := 21) rfl fi_M (by decide) tw_552 (by decide +kernel) rfl) ?_
  refine am_all.c (s_put (C := cn_M) (Tf := ft_M) (N := 21) (ty := .int) rfl fi_M fy_M fo_M fn_M (by decide) tw_553 (Or.inl rfl) (by decide +kernel) (Or.inl ⟨rfl, rfl⟩) (by decide +kernel) rfl) ?_
  refine am_all.c (s_aload_n (kf := 0) (by decide +kernel) rfl rfl) ?_
  refine am_all.c (s_get (C := cn_M) (Tf := ft_M) (N := 21) rfl fi_M (by decide) tw_552 (by decide +kernel) rfl) ?_
  refine am_all.c (s_iret (by decide +kernel) rfl) ?_
  exact trivial
set_option maxRecDepth 20000 in
theorem ga_M_crash {D : va_G} {dA : Nat → ClassId} {h b L : Nat} {xs : Nat → Int32} (hN : am_nN (am_En D dA h b L xs)) : am_all (am_En D dA h b L xs) mv_tb mv_P tM_crash kM_crash := by
  unfold kM_crash
  refine am_all.c (s_iconst (by decide +kernel) (by decide) rfl) ?_
  refine am_all.c (s_istore_n (kf := 1) (by decide +kernel) rfl rfl) ?_
  refine am_all.c (s_iload_n (kf := 1) (by decide +kernel) rfl rfl) ?_
  refine am_all.c (s_iconst (by decide +kernel) (by decide) rfl) ?_
  refine am_all.c (s_icmp_ge (off := 86) (by decide +kernel) (by decide) rfl) ?_
  refine am_all.c (s_iconst (by decide +kernel) (by decide) rfl) ?_
  refine am_all.c (s_istore_n (kf := 2) (by decide +kernel) rfl rfl) ?_
  refine am_all.c (s_aload_n (kf := 0) (by decide +kernel) rfl rfl) ?_
  refine am_all.c (s_get (C := cn_M) (Tf := ft_M) (N := 21) rfl fi_M (by decide) tw_553 (by decide +kernel) rfl) ?_
  refine am_all.c (s_istore_n (kf := 3) (by decide +kernel) rfl rfl) ?_
  refine am_all.c (s_iload_n (kf := 3) (by decide +kernel) rfl rfl) ?_
  refine am_all.c (s_aload_n (kf := 0) (by decide +kernel) rfl rfl) ?_
  refine am_all.c (s_get (C := cn_M) (Tf := ft_M) (N := 21) rfl fi_M (by decide) tw_552 (by decide +kernel) rfl) ?_
  refine am_all.c (s_icmp_ge (off := 37) (by decide +kernel) (by decide) rfl) ?_
  refine am_all.c (s_aload_n (kf := 0) (by decide +kernel) rfl rfl) ?_
  refine am_all.c (s_get (C := cn_M) (Tf := ft_M) (N := 21) rfl fi_M (by decide) tw_554 (by decide +kernel) rfl) ?_
  refine am_all.c (s_iconst (by decide +kernel) (by decide) rfl) ?_
  refine am_all.c (s_iload_n (kf := 3) (by decide +kernel) rfl rfl) ?_
  refine am_all.c (s_imul (by decide +kernel) rfl) ?_
  refine am_all.c (s_iald rfl (by decide +kernel) rfl) ?_
  refine am_all.c (s_iconst (by decide +kernel) (by decide) rfl) ?_
  refine am_all.c (s_icmp_ne (off := 19) (by decide +kernel) (by decide) rfl) ?_
  refine am_all.c (s_aload_n (kf := 0) (by decide +kernel) rfl rfl) ?_
  refine am_all.c (s_get (C := cn_M) (Tf := ft_M) (N := 21) rfl fi_M (by decide) tw_554 (by decide +kernel) rfl) ?_
  refine am_all.c (s_iconst (by decide +kernel) (by decide) rfl) ?_
  refine am_all.c (s_iload_n (kf := 3) (by decide +kernel) rfl rfl) ?_
  refine am_all.c (s_imul (by decide +kernel) rfl) ?_
  refine am_all.c (s_iconst (by decide +kernel) (by decide) rfl) ?_
  refine am_all.c (s_iadd (by decide +kernel) rfl) ?_
  refine am_all.c (s_iald rfl (by decide +kernel) rfl) ?_
  refine am_all.c (s_iload_n (kf := 1) (by decide +kernel) rfl rfl) ?_
  refine am_all.c (s_icmp_ne (off := 5) (by decide +kernel) (by decide) rfl) ?_
  refine am_all.c (s_iconst (by decide +kernel) (by decide) rfl) ?_
  refine am_all.c (s_istore_n (kf := 2) (by decide +kernel) rfl rfl) ?_
  refine am_all.c (s_iinc (by decide +kernel) rfl) ?_
  refine am_all.c (s_goto (off := -39) (by decide +kernel) (by decide)) ?_
  refine am_all.c (s_iload_n (kf := 2) (by decide +kernel) rfl rfl) ?_
  refine am_all.c (s_if_eq (off := 13) (by decide +kernel) (by decide) rfl) ?_
  refine am_all.c (s_aload_n (kf := 0) (by decide +kernel) rfl rfl) ?_
  refine am_all.c (s_get (C := cn_M) (Tf := ft_M) (N := 21) rfl fi_M (by decide) tw_558 (by decide +kernel) rfl) ?_
  refine am_all.c (s_iload_n (kf := 1) (by decide +kernel) rfl rfl) ?_
  refine am_all.c (s_dup2 (by decide +kernel) rfl) ?_
  refine am_all.c (s_iald rfl (by decide +kernel) rfl) ?_
  refine am_all.c (s_iconst (by decide +kernel) (by decide) rfl) ?_
  refine am_all.c (s_iadd (by decide +kernel) rfl) ?_
  refine am_all.c (s_iast rfl (by decide +kernel) rfl) ?_
  refine am_all.c (s_aload_n (kf := 0) (by decide +kernel) rfl rfl) ?_
  refine am_all.c (s_get (C := cn_M) (Tf := ft_M) (N := 21) rfl fi_M (by decide) tw_555 (by decide +kernel) rfl) ?_
  refine am_all.c (s_iload_n (kf := 1) (by decide +kernel) rfl rfl) ?_
  refine am_all.c (s_iconst (by decide +kernel) (by decide) rfl) ?_
  refine am_all.c (s_iast rfl (by decide +kernel) rfl) ?_
  refine am_all.c (s_aload_n (kf := 0) (by decide +kernel) rfl rfl) ?_
  refine am_all.c (s_get (C := cn_M) (Tf := ft_M) (N := 21) rfl fi_M (by decide) tw_557 (by decide +kernel) rfl) ?_
  refine am_all.c (s_iload_n (kf := 1) (by decide +kernel) rfl rfl) ?_
  refine am_all.c (s_iconst (by decide +kernel) (by decide) rfl) ?_
  refine am_all.c (s_iast rfl (by decide +kernel) rfl) ?_
  refine am_all.c (s_iinc (by decide +kernel) rfl) ?_
  refine am_all.c (s_goto (off := -85) (by decide +kernel) (by decide)) ?_
  refine am_all.c (s_aload_n (kf := 0) (by decide +kernel) rfl rfl) ?_
  refine am_all.c (s_aload_n (kf := 0) (by decide +kernel) rfl rfl) ?_
  refine am_all.c (s_get (C := cn_M) (Tf := ft_M) (N := 21) rfl fi_M (by decide) tw_553 (by decide +kernel) rfl) ?_
  refine am_all.c (s_put (C := cn_M) (Tf := ft_M) (N := 21) (ty := .int) rfl fi_M fy_M fo_M fn_M (by decide) tw_552 (Or.inl rfl) (by decide +kernel) (Or.inl ⟨rfl, rfl⟩) (by decide +kernel) rfl) ?_
  refine am_all.c (s_iconst (by decide +kernel) (by decide) rfl) ?_
  refine am_all.c (s_istore_n (kf := 1) (by decide +kernel) rfl rfl) ?_
  refine am_all.c (s_iload_n (kf := 1) (by decide +kernel) rfl rfl) ?_
  refine am_all.c (s_aload_n (kf := 0) (by decide +kernel) rfl rfl) ?_
  refine am_all.c (s_get (C := cn_M) (Tf := ft_M) (N := 21) rfl fi_M (by decide) tw_552 (by decide +kernel) rfl) ?_
  refine am_all.c (s_icmp_ge (off := 14) (by decide +kernel) (by decide) rfl) ?_
  refine am_all.c (s_aload_n (kf := 0) (by decide +kernel) rfl rfl) ?_
  refine am_all.c (s_iload_n (kf := 1) (by decide +kernel) rfl rfl) ?_
  refine am_all.c (s_callV (q := (cn_M, ft_M, 21)) (by decide) (ce_M_apply hN) rfl rfl tw_631 tw_633 tw_23 (by decide +kernel) rfl) ?_
  refine am_all.c (s_iinc (by decide +kernel) rfl) ?_
  refine am_all.c (s_goto (off := -16) (by decide +kernel) (by decide)) ?_
  refine am_all.c (s_iconst (by decide +kernel) (by decide) rfl) ?_
  refine am_all.c (s_istore_n (kf := 1) (by decide +kernel) rfl rfl) ?_
  refine am_all.c (s_iload_n (kf := 1) (by decide +kernel) rfl rfl) ?_
  refine am_all.c (s_iconst (by decide +kernel) (by decide) rfl) ?_
  refine am_all.c (s_icmp_ge (off := 16) (by decide +kernel) (by decide) rfl) ?_
  refine am_all.c (s_aload_n (kf := 0) (by decide +kernel) rfl rfl) ?_
  refine am_all.c (s_get (C := cn_M) (Tf := ft_M) (N := 21) rfl fi_M (by decide) tw_559 (by decide +kernel) rfl) ?_
  refine am_all.c (s_iload_n (kf := 1) (by decide +kernel) rfl rfl) ?_
  refine am_all.c (s_iconst (by decide +kernel) (by decide) rfl) ?_
  refine am_all.c (s_iast rfl (by decide +kernel) rfl) ?_
  refine am_all.c (s_iinc (by decide +kernel) rfl) ?_
  refine am_all.c (s_goto (off := -15) (by decide +kernel) (by decide)) ?_
  refine am_all.c (s_aload_n (kf := 0) (by decide +kernel) rfl rfl) ?_
  refine am_all.c (s_get (C := cn_M) (Tf := ft_M) (N := 21) rfl fi_M (by decide) tw_552 (by decide +kernel) rfl) ?_
  refine am_all.c (s_iret (by decide +kernel) rfl) ?_
  exact trivial
set_option maxRecDepth 20000 in
theorem ga_M_message {D : va_G} {dA : Nat → ClassId} {h b L : Nat} {xs : Nat → Int32} (hN : am_nN (am_En D dA h b L xs)) : am_all (am_En D dA h b L xs) mv_tb mv_P tM_message kM_message := by
  unfold kM_message
  refine am_all.c (s_iload_n (kf := 1) (by decide +kernel) rfl rfl) ?_
  refine am_all.c (s_iconst (by decide +kernel) (by decide) rfl) ?_
  refine am_all.c (s_iconst (by decide +kernel) (by decide) rfl) ?_
  refine am_all.c (s_callS (by decide) (ce_M_in hN) tw_620 tw_621 (by decide +kernel) rfl) ?_
  refine am_all.c (s_if_eq (off := 28) (by decide +kernel) (by decide) rfl) ?_
  refine am_all.c (s_iload_n (kf := 2) (by decide +kernel) rfl rfl) ?_
  refine am_all.c (s_iconst (by decide +kernel) (by decide) rfl) ?_
  refine am_all.c (s_aload_n (kf := 0) (by decide +kernel) rfl rfl) ?_
  refine am_all.c (s_get (C := cn_M) (Tf := ft_M) (N := 21) rfl fi_M (by decide) tw_555 (by decide +kernel) rfl) ?_
  refine am_all.c (s_iload_n (kf := 1) (by decide +kernel) rfl rfl) ?_
  refine am_all.c (s_iald rfl (by decide +kernel) rfl) ?_
  refine am_all.c (s_iconst (by decide +kernel) (by decide) rfl) ?_
  refine am_all.c (s_isub (by decide +kernel) rfl) ?_
  refine am_all.c (s_callS (by decide) (ce_M_in hN) tw_620 tw_621 (by decide +kernel) rfl) ?_
  refine am_all.c (s_if_eq (off := 12) (by decide +kernel) (by decide) rfl) ?_
  refine am_all.c (s_iload_n (kf := 3) (by decide +kernel) rfl rfl) ?_
  refine am_all.c (s_iconst (by decide +kernel) (by decide) rfl) ?_
  refine am_all.c (s_iconst (by decide +kernel) (by decide) rfl) ?_
  refine am_all.c (s_callS (by decide) (ce_M_in hN) tw_620 tw_621 (by decide +kernel) rfl) ?_
  refine am_all.c (s_if_ne (off := 5) (by decide +kernel) (by decide) rfl) ?_
  refine am_all.c (s_iconst (by decide +kernel) (by decide) rfl) ?_
  refine am_all.c (s_iret (by decide +kernel) rfl) ?_
  refine am_all.c (s_aload_n (kf := 0) (by decide +kernel) rfl rfl) ?_
  refine am_all.c (s_get (C := cn_M) (Tf := ft_M) (N := 21) rfl fi_M (by decide) tw_556 (by decide +kernel) rfl) ?_
  refine am_all.c (s_bipush (by decide +kernel) (by decide +kernel) (by decide) rfl) ?_
  refine am_all.c (s_iload_n (kf := 1) (by decide +kernel) rfl rfl) ?_
  refine am_all.c (s_imul (by decide +kernel) rfl) ?_
  refine am_all.c (s_iconst (by decide +kernel) (by decide) rfl) ?_
  refine am_all.c (s_iload_n (kf := 2) (by decide +kernel) rfl rfl) ?_
  refine am_all.c (s_imul (by decide +kernel) rfl) ?_
  refine am_all.c (s_iadd (by decide +kernel) rfl) ?_
  refine am_all.c (s_iload_n (kf := 3) (by decide +kernel) rfl rfl) ?_
  refine am_all.c (s_iadd (by decide +kernel) rfl) ?_
  refine am_all.c (s_iald rfl (by decide +kernel) rfl) ?_
  refine am_all.c (s_iret (by decide +kernel) rfl) ?_
  exact trivial
set_option maxRecDepth 20000 in
theorem ga_M_seen {D : va_G} {dA : Nat → ClassId} {h b L : Nat} {xs : Nat → Int32} (hN : am_nN (am_En D dA h b L xs)) : am_all (am_En D dA h b L xs) mv_tb mv_P tM_seen kM_seen := by
  unfold kM_seen
  refine am_all.c (s_aload_n (kf := 0) (by decide +kernel) rfl rfl) ?_
  refine am_all.c (s_iload_n (kf := 1) (by decide +kernel) rfl rfl) ?_
  refine am_all.c (s_iload_n (kf := 2) (by decide +kernel) rfl rfl) ?_
  refine am_all.c (s_callV (q := (cn_M, ft_M, 21)) (by decide) (ce_M_bad hN) rfl rfl tw_691 tw_693 tw_34 (by decide +kernel) rfl) ?_
  refine am_all.c (s_if_ne (off := 12) (by decide +kernel) (by decide) rfl) ?_
  refine am_all.c (s_iload_n (kf := 3) (by decide +kernel) rfl rfl) ?_
  refine am_all.c (s_iconst (by decide +kernel) (by decide) rfl) ?_
  refine am_all.c (s_iconst (by decide +kernel) (by decide) rfl) ?_
  refine am_all.c (s_callS (by decide) (ce_M_in hN) tw_620 tw_621 (by decide +kernel) rfl) ?_
  refine am_all.c (s_if_ne (off := 5) (by decide +kernel) (by decide) rfl) ?_
  refine am_all.c (s_iconst (by decide +kernel) (by decide) rfl) ?_
  refine am_all.c (s_iret (by decide +kernel) rfl) ?_
  refine am_all.c (s_iload_n (kf := 3) (by decide +kernel) rfl rfl) ?_
  refine am_all.c (s_if_ne (off := 12) (by decide +kernel) (by decide) rfl) ?_
  refine am_all.c (s_aload_n (kf := 0) (by decide +kernel) rfl rfl) ?_
  refine am_all.c (s_iload_n (kf := 1) (by decide +kernel) rfl rfl) ?_
  refine am_all.c (s_iload_n (kf := 2) (by decide +kernel) rfl rfl) ?_
  refine am_all.c (s_callV (q := (cn_M, ft_M, 21)) (by decide) (ce_M_uidOf hN) rfl rfl tw_671 tw_673 tw_30 (by decide +kernel) rfl) ?_
  refine am_all.c (s_goto (off := 16) (by decide +kernel) (by decide)) ?_
  refine am_all.c (s_aload_n (kf := 0) (by decide +kernel) rfl rfl) ?_
  refine am_all.c (s_get (C := cn_M) (Tf := ft_M) (N := 21) rfl fi_M (by decide) tw_563 (by decide +kernel) rfl) ?_
  refine am_all.c (s_bipush (by decide +kernel) (by decide +kernel) (by decide) rfl) ?_
  refine am_all.c (s_iload_n (kf := 1) (by decide +kernel) rfl rfl) ?_
  refine am_all.c (s_imul (by decide +kernel) rfl) ?_
  refine am_all.c (s_iload_n (kf := 2) (by decide +kernel) rfl rfl) ?_
  refine am_all.c (s_iadd (by decide +kernel) rfl) ?_
  refine am_all.c (s_iconst (by decide +kernel) (by decide) rfl) ?_
  refine am_all.c (s_isub (by decide +kernel) rfl) ?_
  refine am_all.c (s_iald rfl (by decide +kernel) rfl) ?_
  refine am_all.c (s_iret (by decide +kernel) rfl) ?_
  exact trivial
set_option maxRecDepth 20000 in
theorem ga_M_notice {D : va_G} {dA : Nat → ClassId} {h b L : Nat} {xs : Nat → Int32} (hN : am_nN (am_En D dA h b L xs)) : am_all (am_En D dA h b L xs) mv_tb mv_P tM_notice kM_notice := by
  unfold kM_notice
  refine am_all.c (s_aload_n (kf := 0) (by decide +kernel) rfl rfl) ?_
  refine am_all.c (s_iload_n (kf := 1) (by decide +kernel) rfl rfl) ?_
  refine am_all.c (s_callV (q := (cn_M, ft_M, 21)) (by decide) (ce_M_none hN) rfl rfl tw_651 tw_653 tw_26 (by decide +kernel) rfl) ?_
  refine am_all.c (s_if_ne (off := 28) (by decide +kernel) (by decide) rfl) ?_
  refine am_all.c (s_iload_n (kf := 2) (by decide +kernel) rfl rfl) ?_
  refine am_all.c (s_iconst (by decide +kernel) (by decide) rfl) ?_
  refine am_all.c (s_aload_n (kf := 0) (by decide +kernel) rfl rfl) ?_
  refine am_all.c (s_get (C := cn_M) (Tf := ft_M) (N := 21) rfl fi_M (by decide) tw_565 (by decide +kernel) rfl) ?_
  refine am_all.c (s_iload_n (kf := 1) (by decide +kernel) rfl rfl) ?_
  refine am_all.c (s_iald rfl (by decide +kernel) rfl) ?_
  refine am_all.c (s_iconst (by decide +kernel) (by decide) rfl) ?_
  refine am_all.c (s_isub (by decide +kernel) rfl) ?_
  refine am_all.c (s_callS (by decide) (ce_M_in hN) tw_620 tw_621 (by decide +kernel) rfl) ?_
  refine am_all.c (s_if_eq (off := 12) (by decide +kernel) (by decide) rfl) ?_
  refine am_all.c (s_iload_n (kf := 3) (by decide +kernel) rfl rfl) ?_
  refine am_all.c (s_iconst (by decide +kernel) (by decide) rfl) ?_
  refine am_all.c (s_iconst (by decide +kernel) (by decide) rfl) ?_
  refine am_all.c (s_callS (by decide) (ce_M_in hN) tw_620 tw_621 (by decide +kernel) rfl) ?_
  refine am_all.c (s_if_ne (off := 5) (by decide +kernel) (by decide) rfl) ?_
  refine am_all.c (s_iconst (by decide +kernel) (by decide) rfl) ?_
  refine am_all.c (s_iret (by decide +kernel) rfl) ?_
  refine am_all.c (s_aload_n (kf := 0) (by decide +kernel) rfl rfl) ?_
  refine am_all.c (s_get (C := cn_M) (Tf := ft_M) (N := 21) rfl fi_M (by decide) tw_566 (by decide +kernel) rfl) ?_
  refine am_all.c (s_bipush (by decide +kernel) (by decide +kernel) (by decide) rfl) ?_
  refine am_all.c (s_iload_n (kf := 1) (by decide +kernel) rfl rfl) ?_
  refine am_all.c (s_imul (by decide +kernel) rfl) ?_
  refine am_all.c (s_iconst (by decide +kernel) (by decide) rfl) ?_
  refine am_all.c (s_iload_n (kf := 2) (by decide +kernel) rfl rfl) ?_
  refine am_all.c (s_imul (by decide +kernel) rfl) ?_
  refine am_all.c (s_iadd (by decide +kernel) rfl) ?_
  refine am_all.c (s_iload_n (kf := 3) (by decide +kernel) rfl rfl) ?_
  refine am_all.c (s_iadd (by decide +kernel) rfl) ?_
  refine am_all.c (s_iald rfl (by decide +kernel) rfl) ?_
  refine am_all.c (s_iret (by decide +kernel) rfl) ?_
  exact trivial
set_option maxRecDepth 20000 in
theorem ga_M_mailbox {D : va_G} {dA : Nat → ClassId} {h b L : Nat} {xs : Nat → Int32} (hN : am_nN (am_En D dA h b L xs)) : am_all (am_En D dA h b L xs) mv_tb mv_P tM_mailbox kM_mailbox := by
  unfold kM_mailbox
  refine am_all.c (s_iload_n (kf := 1) (by decide +kernel) rfl rfl) ?_
  refine am_all.c (s_iconst (by decide +kernel) (by decide) rfl) ?_
  refine am_all.c (s_iconst (by decide +kernel) (by decide) rfl) ?_
  refine am_all.c (s_callS (by decide) (ce_M_in hN) tw_620 tw_621 (by decide +kernel) rfl) ?_
  refine am_all.c (s_if_eq (off := 12) (by decide +kernel) (by decide) rfl) ?_
  refine am_all.c (s_iload_n (kf := 2) (by decide +kernel) rfl rfl) ?_
  refine am_all.c (s_iconst (by decide +kernel) (by decide) rfl) ?_
  refine am_all.c (s_iconst (by decide +kernel) (by decide) rfl) ?_
  refine am_all.c (s_callS (by decide) (ce_M_in hN) tw_620 tw_621 (by decide +kernel) rfl) ?_
  refine am_all.c (s_if_ne (off := 5) (by decide +kernel) (by decide) rfl) ?_
  refine am_all.c (s_iconst (by decide +kernel) (by decide) rfl) ?_
  refine am_all.c (s_iret (by decide +kernel) rfl) ?_
  refine am_all.c (s_iload_n (kf := 2) (by decide +kernel) rfl rfl) ?_
  refine am_all.c (s_if_ne (off := 10) (by decide +kernel) (by decide) rfl) ?_
  refine am_all.c (s_aload_n (kf := 0) (by decide +kernel) rfl rfl) ?_
  refine am_all.c (s_get (C := cn_M) (Tf := ft_M) (N := 21) rfl fi_M (by decide) tw_555 (by decide +kernel) rfl) ?_
  refine am_all.c (s_iload_n (kf := 1) (by decide +kernel) rfl rfl) ?_
  refine am_all.c (s_iald rfl (by decide +kernel) rfl) ?_
  refine am_all.c (s_iret (by decide +kernel) rfl) ?_
  refine am_all.c (s_iload_n (kf := 2) (by decide +kernel) rfl rfl) ?_
  refine am_all.c (s_iconst (by decide +kernel) (by decide) rfl) ?_
  refine am_all.c (s_icmp_ge (off := 24) (by decide +kernel) (by decide) rfl) ?_
  refine am_all.c (s_iload_n (kf := 2) (by decide +kernel) rfl rfl) ?_
  refine am_all.c (s_iconst (by decide +kernel) (by decide) rfl) ?_
  refine am_all.c (s_icmp_ne (off := 12) (by decide +kernel) (by decide) rfl) ?_
  refine am_all.c (s_aload_n (kf := 0) (by decide +kernel) rfl rfl) ?_
  refine am_all.c (s_get (C := cn_M) (Tf := ft_M) (N := 21) rfl fi_M (by decide) tw_557 (by decide +kernel) rfl) ?_
  refine am_all.c (s_iload_n (kf := 1) (by decide +kernel) rfl rfl) ?_
  refine am_all.c (s_iald rfl (by decide +kernel) rfl) ?_
  refine am_all.c (s_goto (off := 9) (by decide +kernel) (by decide)) ?_
  refine am_all.c (s_aload_n (kf := 0) (by decide +kernel) rfl rfl) ?_
  refine am_all.c (s_get (C := cn_M) (Tf := ft_M) (N := 21) rfl fi_M (by decide) tw_558 (by decide +kernel) rfl) ?_
  refine am_all.c (s_iload_n (kf := 1) (by decide +kernel) rfl rfl) ?_
  refine am_all.c (s_iald rfl (by decide +kernel) rfl) ?_
  refine am_all.c (s_iret (by decide +kernel) rfl) ?_
  refine am_all.c (s_iconst (by decide +kernel) (by decide) rfl) ?_
  refine am_all.c (s_istore_n (kf := 3) (by decide +kernel) rfl rfl) ?_
  refine am_all.c (s_iconst (by decide +kernel) (by decide) rfl) ?_
  refine am_all.c (s_istore (by decide +kernel) rfl) ?_
  refine am_all.c (s_iload (by decide +kernel) rfl) ?_
  refine am_all.c (s_iconst (by decide +kernel) (by decide) rfl) ?_
  refine am_all.c (s_icmp_ge (off := 23) (by decide +kernel) (by decide) rfl) ?_
  refine am_all.c (s_aload_n (kf := 0) (by decide +kernel) rfl rfl) ?_
  refine am_all.c (s_get (C := cn_M) (Tf := ft_M) (N := 21) rfl fi_M (by decide) tw_559 (by decide +kernel) rfl) ?_
  refine am_all.c (s_iload (by decide +kernel) rfl) ?_
  refine am_all.c (s_iald rfl (by decide +kernel) rfl) ?_
  refine am_all.c (s_iload_n (kf := 1) (by decide +kernel) rfl rfl) ?_
  refine am_all.c (s_icmp_ne (off := 6) (by decide +kernel) (by decide) rfl) ?_
  refine am_all.c (s_iinc (by decide +kernel) rfl) ?_
  refine am_all.c (s_iinc (by decide +kernel) rfl) ?_
  refine am_all.c (s_goto (off := -23) (by decide +kernel) (by decide)) ?_
  refine am_all.c (s_iload_n (kf := 3) (by decide +kernel) rfl rfl) ?_
  refine am_all.c (s_iret (by decide +kernel) rfl) ?_
  exact trivial
set_option maxRecDepth 20000 in
theorem ga_M_count {D : va_G} {dA : Nat → ClassId} {h b L : Nat} {xs : Nat → Int32} (hN : am_nN (am_En D dA h b L xs)) : am_all (am_En D dA h b L xs) mv_tb mv_P tM_count kM_count := by
  unfold kM_count
  refine am_all.c (s_iload_n (kf := 1) (by decide +kernel) rfl rfl) ?_
  refine am_all.c (s_iconst (by decide +kernel) (by decide) rfl) ?_
  refine am_all.c (s_iconst (by decide +kernel) (by decide) rfl) ?_
  refine am_all.c (s_callS (by decide) (ce_M_in hN) tw_620 tw_621 (by decide +kernel) rfl) ?_
  refine am_all.c (s_if_eq (off := 19) (by decide +kernel) (by decide) rfl) ?_
  refine am_all.c (s_iload_n (kf := 1) (by decide +kernel) rfl rfl) ?_
  refine am_all.c (s_if_ne (off := 10) (by decide +kernel) (by decide) rfl) ?_
  refine am_all.c (s_aload_n (kf := 0) (by decide +kernel) rfl rfl) ?_
  refine am_all.c (s_get (C := cn_M) (Tf := ft_M) (N := 21) rfl fi_M (by decide) tw_552 (by decide +kernel) rfl) ?_
  refine am_all.c (s_goto (off := 7) (by decide +kernel) (by decide)) ?_
  refine am_all.c (s_aload_n (kf := 0) (by decide +kernel) rfl rfl) ?_
  refine am_all.c (s_get (C := cn_M) (Tf := ft_M) (N := 21) rfl fi_M (by decide) tw_553 (by decide +kernel) rfl) ?_
  refine am_all.c (s_iret (by decide +kernel) rfl) ?_
  refine am_all.c (s_iload_n (kf := 1) (by decide +kernel) rfl rfl) ?_
  refine am_all.c (s_iconst (by decide +kernel) (by decide) rfl) ?_
  refine am_all.c (s_icmp_ne (off := 10) (by decide +kernel) (by decide) rfl) ?_
  refine am_all.c (s_aload_n (kf := 0) (by decide +kernel) rfl rfl) ?_
  refine am_all.c (s_get (C := cn_M) (Tf := ft_M) (N := 21) rfl fi_M (by decide) tw_567 (by decide +kernel) rfl) ?_
  refine am_all.c (s_goto (off := 16) (by decide +kernel) (by decide)) ?_
  refine am_all.c (s_iload_n (kf := 1) (by decide +kernel) rfl rfl) ?_
  refine am_all.c (s_iconst (by decide +kernel) (by decide) rfl) ?_
  refine am_all.c (s_icmp_ne (off := 10) (by decide +kernel) (by decide) rfl) ?_
  refine am_all.c (s_aload_n (kf := 0) (by decide +kernel) rfl rfl) ?_
  refine am_all.c (s_get (C := cn_M) (Tf := ft_M) (N := 21) rfl fi_M (by decide) tw_569 (by decide +kernel) rfl) ?_
  refine am_all.c (s_goto (off := 4) (by decide +kernel) (by decide)) ?_
  refine am_all.c (s_iconst (by decide +kernel) (by decide) rfl) ?_
  refine am_all.c (s_iret (by decide +kernel) rfl) ?_
  exact trivial
