/-! printed by wip/whole/gen/prog.py: the law, and all methods together -/
set_option maxRecDepth 20000 in
theorem ga_L_law {D : va_G} {dA : Nat → ClassId} {h b L : Nat} {xs : Nat → Int32} (hN : am_nN (am_En D dA h b L xs)) (hL : L < 2147483648) : am_all (am_En D dA h b L xs) mv_tb mv_P tL_law (kL_law L (fun j => (xs j).toInt)) := by
  unfold kL_law
  have hxs : ∀ j, (fun j => (xs j).toInt) j = (e_xs (am_En D dA h b L xs) j).toInt := fun _ => rfl
  refine am_all.c (s_new (C := cn_V) (Tf := ft_V) (N := 6) rfl fi_V fy_V fo_V tw_47 tw_48 tw_40 rfl fz_V fw_V (by decide +kernel) rfl) ?_
  refine am_all.c (s_dup (by decide +kernel) rfl) ?_
  refine am_all.c (s_callI (host := "") (by decide) (ce_V_init hN) rfl rfl (Or.inl tw_49) tw_50 (by decide +kernel) rfl) ?_
  refine am_all.c (s_astore_n (kf := 1) (by decide +kernel) rfl rfl) ?_
  refine am_all.c (s_new (C := cn_M) (Tf := ft_M) (N := 21) rfl fi_M fy_M fo_M tw_546 tw_547 tw_45 rfl fz_M fw_M (by decide +kernel) rfl) ?_
  refine am_all.c (s_dup (by decide +kernel) rfl) ?_
  refine am_all.c (s_callI (host := "") (by decide) (ce_M_init hN) rfl rfl (Or.inl tw_548) tw_549 (by decide +kernel) rfl) ?_
  refine am_all.c (s_astore_n (kf := 2) (by decide +kernel) rfl rfl) ?_
  refine am_all.c (s_iconst (by decide +kernel) (by decide) rfl) ?_
  refine am_all.c (s_istore_n (kf := 3) (by decide +kernel) rfl rfl) ?_
  refine am_all.c (s_iload_n (kf := 3) (by decide +kernel) rfl rfl) ?_
  refine am_all.c (s_aload_n (kf := 0) (by decide +kernel) rfl rfl) ?_
  refine am_all.c (s_slen hN hL (show decode code 20 = .ok (.arraylength, 1) by decide +kernel) rfl) ?_
  refine am_all.c (s_iconst (by decide +kernel) (by decide) rfl) ?_
  refine am_all.c (s_isub (by decide +kernel) rfl) ?_
  refine am_all.c (s_icmp_gt (off := 703) (by decide +kernel) (by decide) rfl) ?_
  refine am_all.c (s_aload_n (kf := 0) (by decide +kernel) rfl rfl) ?_
  refine am_all.c (s_iload_n (kf := 3) (by decide +kernel) rfl rfl) ?_
  refine am_all.c (s_sld hN hxs (show decode code 28 = .ok (.iaload, 1) by decide +kernel) rfl) ?_
  refine am_all.c (s_bipush (by decide +kernel) (by decide +kernel) (by decide) rfl) ?_
  refine am_all.c (s_iand (by decide +kernel) rfl) ?_
  refine am_all.c (s_tsw (dflt := 688) (lo := 0) (hi := 17) (offs := #[88, 131, 190, 213, 236, 269, 322, 345, 388, 431, 454, 477, 490, 503, 546, 589, 632, 665]) (len := 88) (by decide +kernel) (by decide) (by decide) (am_tsc (by decide))) ?_
  refine am_all.c (s_aload_n (kf := 1) (by decide +kernel) rfl rfl) ?_
  refine am_all.c (s_aload_n (kf := 0) (by decide +kernel) rfl rfl) ?_
  refine am_all.c (s_iload_n (kf := 3) (by decide +kernel) rfl rfl) ?_
  refine am_all.c (s_iconst (by decide +kernel) (by decide) rfl) ?_
  refine am_all.c (s_iadd (by decide +kernel) rfl) ?_
  refine am_all.c (s_sld hN hxs (show decode code 125 = .ok (.iaload, 1) by decide +kernel) rfl) ?_
  refine am_all.c (s_aload_n (kf := 0) (by decide +kernel) rfl rfl) ?_
  refine am_all.c (s_iload_n (kf := 3) (by decide +kernel) rfl rfl) ?_
  refine am_all.c (s_iconst (by decide +kernel) (by decide) rfl) ?_
  refine am_all.c (s_iadd (by decide +kernel) rfl) ?_
  refine am_all.c (s_sld hN hxs (show decode code 130 = .ok (.iaload, 1) by decide +kernel) rfl) ?_
  refine am_all.c (s_aload_n (kf := 0) (by decide +kernel) rfl rfl) ?_
  refine am_all.c (s_iload_n (kf := 3) (by decide +kernel) rfl rfl) ?_
  refine am_all.c (s_iconst (by decide +kernel) (by decide) rfl) ?_
  refine am_all.c (s_iadd (by decide +kernel) rfl) ?_
  refine am_all.c (s_sld hN hxs (show decode code 135 = .ok (.iaload, 1) by decide +kernel) rfl) ?_
  refine am_all.c (s_callV (q := (cn_V, ft_V, 6)) (by decide) (ce_V_append hN) rfl rfl tw_193 tw_194 tw_195 (by decide +kernel) rfl) ?_
  refine am_all.c (s_aload_n (kf := 2) (by decide +kernel) rfl rfl) ?_
  refine am_all.c (s_aload_n (kf := 0) (by decide +kernel) rfl rfl) ?_
  refine am_all.c (s_iload_n (kf := 3) (by decide +kernel) rfl rfl) ?_
  refine am_all.c (s_iconst (by decide +kernel) (by decide) rfl) ?_
  refine am_all.c (s_iadd (by decide +kernel) rfl) ?_
  refine am_all.c (s_sld hN hxs (show decode code 144 = .ok (.iaload, 1) by decide +kernel) rfl) ?_
  refine am_all.c (s_aload_n (kf := 0) (by decide +kernel) rfl rfl) ?_
  refine am_all.c (s_iload_n (kf := 3) (by decide +kernel) rfl rfl) ?_
  refine am_all.c (s_iconst (by decide +kernel) (by decide) rfl) ?_
  refine am_all.c (s_iadd (by decide +kernel) rfl) ?_
  refine am_all.c (s_sld hN hxs (show decode code 149 = .ok (.iaload, 1) by decide +kernel) rfl) ?_
  refine am_all.c (s_aload_n (kf := 0) (by decide +kernel) rfl rfl) ?_
  refine am_all.c (s_iload_n (kf := 3) (by decide +kernel) rfl rfl) ?_
  refine am_all.c (s_iconst (by decide +kernel) (by decide) rfl) ?_
  refine am_all.c (s_iadd (by decide +kernel) rfl) ?_
  refine am_all.c (s_sld hN hxs (show decode code 154 = .ok (.iaload, 1) by decide +kernel) rfl) ?_
  refine am_all.c (s_callV (q := (cn_M, ft_M, 21)) (by decide) (ce_M_append hN) rfl rfl tw_616 tw_617 tw_618 (by decide +kernel) rfl) ?_
  refine am_all.c (s_icmp_eq (off := 562) (by decide +kernel) (by decide) rfl) ?_
  refine am_all.c (s_iconst (by decide +kernel) (by decide) rfl) ?_
  refine am_all.c (s_zret (by decide +kernel) rfl) ?_
  refine am_all.c (s_aload_n (kf := 1) (by decide +kernel) rfl rfl) ?_
  refine am_all.c (s_aload_n (kf := 0) (by decide +kernel) rfl rfl) ?_
  refine am_all.c (s_iload_n (kf := 3) (by decide +kernel) rfl rfl) ?_
  refine am_all.c (s_iconst (by decide +kernel) (by decide) rfl) ?_
  refine am_all.c (s_iadd (by decide +kernel) rfl) ?_
  refine am_all.c (s_sld hN hxs (show decode code 168 = .ok (.iaload, 1) by decide +kernel) rfl) ?_
  refine am_all.c (s_aload_n (kf := 0) (by decide +kernel) rfl rfl) ?_
  refine am_all.c (s_iload_n (kf := 3) (by decide +kernel) rfl rfl) ?_
  refine am_all.c (s_iconst (by decide +kernel) (by decide) rfl) ?_
  refine am_all.c (s_iadd (by decide +kernel) rfl) ?_
  refine am_all.c (s_sld hN hxs (show decode code 173 = .ok (.iaload, 1) by decide +kernel) rfl) ?_
  refine am_all.c (s_aload_n (kf := 0) (by decide +kernel) rfl rfl) ?_
  refine am_all.c (s_iload_n (kf := 3) (by decide +kernel) rfl rfl) ?_
  refine am_all.c (s_iconst (by decide +kernel) (by decide) rfl) ?_
  refine am_all.c (s_iadd (by decide +kernel) rfl) ?_
  refine am_all.c (s_sld hN hxs (show decode code 178 = .ok (.iaload, 1) by decide +kernel) rfl) ?_
  refine am_all.c (s_if_eq (off := 7) (by decide +kernel) (by decide) rfl) ?_
  refine am_all.c (s_iconst (by decide +kernel) (by decide) rfl) ?_
  refine am_all.c (s_goto (off := 4) (by decide +kernel) (by decide)) ?_
  refine am_all.c (s_iconst (by decide +kernel) (by decide) rfl) ?_
  refine am_all.c (s_callV (q := (cn_V, ft_V, 6)) (by decide) (ce_V_select hN) rfl rfl tw_236 tw_237 tw_238 (by decide +kernel) rfl) ?_
  refine am_all.c (s_aload_n (kf := 2) (by decide +kernel) rfl rfl) ?_
  refine am_all.c (s_aload_n (kf := 0) (by decide +kernel) rfl rfl) ?_
  refine am_all.c (s_iload_n (kf := 3) (by decide +kernel) rfl rfl) ?_
  refine am_all.c (s_iconst (by decide +kernel) (by decide) rfl) ?_
  refine am_all.c (s_iadd (by decide +kernel) rfl) ?_
  refine am_all.c (s_sld hN hxs (show decode code 195 = .ok (.iaload, 1) by decide +kernel) rfl) ?_
  refine am_all.c (s_aload_n (kf := 0) (by decide +kernel) rfl rfl) ?_
  refine am_all.c (s_iload_n (kf := 3) (by decide +kernel) rfl rfl) ?_
  refine am_all.c (s_iconst (by decide +kernel) (by decide) rfl) ?_
  refine am_all.c (s_iadd (by decide +kernel) rfl) ?_
  refine am_all.c (s_sld hN hxs (show decode code 200 = .ok (.iaload, 1) by decide +kernel) rfl) ?_
  refine am_all.c (s_aload_n (kf := 0) (by decide +kernel) rfl rfl) ?_
  refine am_all.c (s_iload_n (kf := 3) (by decide +kernel) rfl rfl) ?_
  refine am_all.c (s_iconst (by decide +kernel) (by decide) rfl) ?_
  refine am_all.c (s_iadd (by decide +kernel) rfl) ?_
  refine am_all.c (s_sld hN hxs (show decode code 205 = .ok (.iaload, 1) by decide +kernel) rfl) ?_
  refine am_all.c (s_if_eq (off := 7) (by decide +kernel) (by decide) rfl) ?_
  refine am_all.c (s_iconst (by decide +kernel) (by decide) rfl) ?_
  refine am_all.c (s_goto (off := 4) (by decide +kernel) (by decide)) ?_
  refine am_all.c (s_iconst (by decide +kernel) (by decide) rfl) ?_
  refine am_all.c (s_callV (q := (cn_M, ft_M, 21)) (by decide) (ce_M_select hN) rfl rfl tw_639 tw_640 tw_641 (by decide +kernel) rfl) ?_
  refine am_all.c (s_icmp_eq (off := 503) (by decide +kernel) (by decide) rfl) ?_
  refine am_all.c (s_iconst (by decide +kernel) (by decide) rfl) ?_
  refine am_all.c (s_zret (by decide +kernel) rfl) ?_
  refine am_all.c (s_aload_n (kf := 1) (by decide +kernel) rfl rfl) ?_
  refine am_all.c (s_aload_n (kf := 0) (by decide +kernel) rfl rfl) ?_
  refine am_all.c (s_iload_n (kf := 3) (by decide +kernel) rfl rfl) ?_
  refine am_all.c (s_iconst (by decide +kernel) (by decide) rfl) ?_
  refine am_all.c (s_iadd (by decide +kernel) rfl) ?_
  refine am_all.c (s_sld hN hxs (show decode code 227 = .ok (.iaload, 1) by decide +kernel) rfl) ?_
  refine am_all.c (s_callV (q := (cn_V, ft_V, 6)) (by decide) (ce_V_close hN) rfl rfl tw_267 tw_268 tw_269 (by decide +kernel) rfl) ?_
  refine am_all.c (s_aload_n (kf := 2) (by decide +kernel) rfl rfl) ?_
  refine am_all.c (s_aload_n (kf := 0) (by decide +kernel) rfl rfl) ?_
  refine am_all.c (s_iload_n (kf := 3) (by decide +kernel) rfl rfl) ?_
  refine am_all.c (s_iconst (by decide +kernel) (by decide) rfl) ?_
  refine am_all.c (s_iadd (by decide +kernel) rfl) ?_
  refine am_all.c (s_sld hN hxs (show decode code 236 = .ok (.iaload, 1) by decide +kernel) rfl) ?_
  refine am_all.c (s_callV (q := (cn_M, ft_M, 21)) (by decide) (ce_M_close hN) rfl rfl tw_647 tw_648 tw_649 (by decide +kernel) rfl) ?_
  refine am_all.c (s_icmp_eq (off := 480) (by decide +kernel) (by decide) rfl) ?_
  refine am_all.c (s_iconst (by decide +kernel) (by decide) rfl) ?_
  refine am_all.c (s_zret (by decide +kernel) rfl) ?_
  refine am_all.c (s_aload_n (kf := 1) (by decide +kernel) rfl rfl) ?_
  refine am_all.c (s_aload_n (kf := 0) (by decide +kernel) rfl rfl) ?_
  refine am_all.c (s_iload_n (kf := 3) (by decide +kernel) rfl rfl) ?_
  refine am_all.c (s_iconst (by decide +kernel) (by decide) rfl) ?_
  refine am_all.c (s_iadd (by decide +kernel) rfl) ?_
  refine am_all.c (s_sld hN hxs (show decode code 250 = .ok (.iaload, 1) by decide +kernel) rfl) ?_
  refine am_all.c (s_callV (q := (cn_V, ft_V, 6)) (by decide) (ce_V_check hN) rfl rfl tw_306 tw_307 tw_308 (by decide +kernel) rfl) ?_
  refine am_all.c (s_aload_n (kf := 2) (by decide +kernel) rfl rfl) ?_
  refine am_all.c (s_aload_n (kf := 0) (by decide +kernel) rfl rfl) ?_
  refine am_all.c (s_iload_n (kf := 3) (by decide +kernel) rfl rfl) ?_
  refine am_all.c (s_iconst (by decide +kernel) (by decide) rfl) ?_
  refine am_all.c (s_iadd (by decide +kernel) rfl) ?_
  refine am_all.c (s_sld hN hxs (show decode code 259 = .ok (.iaload, 1) by decide +kernel) rfl) ?_
  refine am_all.c (s_callV (q := (cn_M, ft_M, 21)) (by decide) (ce_M_check hN) rfl rfl tw_659 tw_660 tw_661 (by decide +kernel) rfl) ?_
  refine am_all.c (s_icmp_eq (off := 457) (by decide +kernel) (by decide) rfl) ?_
  refine am_all.c (s_iconst (by decide +kernel) (by decide) rfl) ?_
  refine am_all.c (s_zret (by decide +kernel) rfl) ?_
  refine am_all.c (s_aload_n (kf := 1) (by decide +kernel) rfl rfl) ?_
  refine am_all.c (s_aload_n (kf := 0) (by decide +kernel) rfl rfl) ?_
  refine am_all.c (s_iload_n (kf := 3) (by decide +kernel) rfl rfl) ?_
  refine am_all.c (s_iconst (by decide +kernel) (by decide) rfl) ?_
  refine am_all.c (s_iadd (by decide +kernel) rfl) ?_
  refine am_all.c (s_sld hN hxs (show decode code 273 = .ok (.iaload, 1) by decide +kernel) rfl) ?_
  refine am_all.c (s_aload_n (kf := 0) (by decide +kernel) rfl rfl) ?_
  refine am_all.c (s_iload_n (kf := 3) (by decide +kernel) rfl rfl) ?_
  refine am_all.c (s_iconst (by decide +kernel) (by decide) rfl) ?_
  refine am_all.c (s_iadd (by decide +kernel) rfl) ?_
  refine am_all.c (s_sld hN hxs (show decode code 278 = .ok (.iaload, 1) by decide +kernel) rfl) ?_
  refine am_all.c (s_callV (q := (cn_V, ft_V, 6)) (by decide) (ce_V_fetch hN) rfl rfl tw_354 tw_355 tw_356 (by decide +kernel) rfl) ?_
  refine am_all.c (s_aload_n (kf := 2) (by decide +kernel) rfl rfl) ?_
  refine am_all.c (s_aload_n (kf := 0) (by decide +kernel) rfl rfl) ?_
  refine am_all.c (s_iload_n (kf := 3) (by decide +kernel) rfl rfl) ?_
  refine am_all.c (s_iconst (by decide +kernel) (by decide) rfl) ?_
  refine am_all.c (s_iadd (by decide +kernel) rfl) ?_
  refine am_all.c (s_sld hN hxs (show decode code 287 = .ok (.iaload, 1) by decide +kernel) rfl) ?_
  refine am_all.c (s_aload_n (kf := 0) (by decide +kernel) rfl rfl) ?_
  refine am_all.c (s_iload_n (kf := 3) (by decide +kernel) rfl rfl) ?_
  refine am_all.c (s_iconst (by decide +kernel) (by decide) rfl) ?_
  refine am_all.c (s_iadd (by decide +kernel) rfl) ?_
  refine am_all.c (s_sld hN hxs (show decode code 292 = .ok (.iaload, 1) by decide +kernel) rfl) ?_
  refine am_all.c (s_callV (q := (cn_M, ft_M, 21)) (by decide) (ce_M_fetch hN) rfl rfl tw_687 tw_688 tw_689 (by decide +kernel) rfl) ?_
  refine am_all.c (s_icmp_eq (off := 424) (by decide +kernel) (by decide) rfl) ?_
  refine am_all.c (s_iconst (by decide +kernel) (by decide) rfl) ?_
  refine am_all.c (s_zret (by decide +kernel) rfl) ?_
  refine am_all.c (s_aload_n (kf := 1) (by decide +kernel) rfl rfl) ?_
  refine am_all.c (s_aload_n (kf := 0) (by decide +kernel) rfl rfl) ?_
  refine am_all.c (s_iload_n (kf := 3) (by decide +kernel) rfl rfl) ?_
  refine am_all.c (s_iconst (by decide +kernel) (by decide) rfl) ?_
  refine am_all.c (s_iadd (by decide +kernel) rfl) ?_
  refine am_all.c (s_sld hN hxs (show decode code 306 = .ok (.iaload, 1) by decide +kernel) rfl) ?_
  refine am_all.c (s_aload_n (kf := 0) (by decide +kernel) rfl rfl) ?_
  refine am_all.c (s_iload_n (kf := 3) (by decide +kernel) rfl rfl) ?_
  refine am_all.c (s_iconst (by decide +kernel) (by decide) rfl) ?_
  refine am_all.c (s_iadd (by decide +kernel) rfl) ?_
  refine am_all.c (s_sld hN hxs (show decode code 311 = .ok (.iaload, 1) by decide +kernel) rfl) ?_
  refine am_all.c (s_aload_n (kf := 0) (by decide +kernel) rfl rfl) ?_
  refine am_all.c (s_iload_n (kf := 3) (by decide +kernel) rfl rfl) ?_
  refine am_all.c (s_iconst (by decide +kernel) (by decide) rfl) ?_
  refine am_all.c (s_iadd (by decide +kernel) rfl) ?_
  refine am_all.c (s_sld hN hxs (show decode code 316 = .ok (.iaload, 1) by decide +kernel) rfl) ?_
  refine am_all.c (s_aload_n (kf := 0) (by decide +kernel) rfl rfl) ?_
  refine am_all.c (s_iload_n (kf := 3) (by decide +kernel) rfl rfl) ?_
  refine am_all.c (s_iconst (by decide +kernel) (by decide) rfl) ?_
  refine am_all.c (s_iadd (by decide +kernel) rfl) ?_
  refine am_all.c (s_sld hN hxs (show decode code 321 = .ok (.iaload, 1) by decide +kernel) rfl) ?_
  refine am_all.c (s_callV (q := (cn_V, ft_V, 6)) (by decide) (ce_V_store hN) rfl rfl tw_365 tw_366 tw_367 (by decide +kernel) rfl) ?_
  refine am_all.c (s_aload_n (kf := 2) (by decide +kernel) rfl rfl) ?_
  refine am_all.c (s_aload_n (kf := 0) (by decide +kernel) rfl rfl) ?_
  refine am_all.c (s_iload_n (kf := 3) (by decide +kernel) rfl rfl) ?_
  refine am_all.c (s_iconst (by decide +kernel) (by decide) rfl) ?_
  refine am_all.c (s_iadd (by decide +kernel) rfl) ?_
  refine am_all.c (s_sld hN hxs (show decode code 330 = .ok (.iaload, 1) by decide +kernel) rfl) ?_
  refine am_all.c (s_aload_n (kf := 0) (by decide +kernel) rfl rfl) ?_
  refine am_all.c (s_iload_n (kf := 3) (by decide +kernel) rfl rfl) ?_
  refine am_all.c (s_iconst (by decide +kernel) (by decide) rfl) ?_
  refine am_all.c (s_iadd (by decide +kernel) rfl) ?_
  refine am_all.c (s_sld hN hxs (show decode code 335 = .ok (.iaload, 1) by decide +kernel) rfl) ?_
  refine am_all.c (s_aload_n (kf := 0) (by decide +kernel) rfl rfl) ?_
  refine am_all.c (s_iload_n (kf := 3) (by decide +kernel) rfl rfl) ?_
  refine am_all.c (s_iconst (by decide +kernel) (by decide) rfl) ?_
  refine am_all.c (s_iadd (by decide +kernel) rfl) ?_
  refine am_all.c (s_sld hN hxs (show decode code 340 = .ok (.iaload, 1) by decide +kernel) rfl) ?_
  refine am_all.c (s_aload_n (kf := 0) (by decide +kernel) rfl rfl) ?_
  refine am_all.c (s_iload_n (kf := 3) (by decide +kernel) rfl rfl) ?_
  refine am_all.c (s_iconst (by decide +kernel) (by decide) rfl) ?_
  refine am_all.c (s_iadd (by decide +kernel) rfl) ?_
  refine am_all.c (s_sld hN hxs (show decode code 345 = .ok (.iaload, 1) by decide +kernel) rfl) ?_
  refine am_all.c (s_callV (q := (cn_M, ft_M, 21)) (by decide) (ce_M_store hN) rfl rfl tw_695 tw_696 tw_697 (by decide +kernel) rfl) ?_
  refine am_all.c (s_icmp_eq (off := 371) (by decide +kernel) (by decide) rfl) ?_
  refine am_all.c (s_iconst (by decide +kernel) (by decide) rfl) ?_
  refine am_all.c (s_zret (by decide +kernel) rfl) ?_
  refine am_all.c (s_aload_n (kf := 1) (by decide +kernel) rfl rfl) ?_
  refine am_all.c (s_aload_n (kf := 0) (by decide +kernel) rfl rfl) ?_
  refine am_all.c (s_iload_n (kf := 3) (by decide +kernel) rfl rfl) ?_
  refine am_all.c (s_iconst (by decide +kernel) (by decide) rfl) ?_
  refine am_all.c (s_iadd (by decide +kernel) rfl) ?_
  refine am_all.c (s_sld hN hxs (show decode code 359 = .ok (.iaload, 1) by decide +kernel) rfl) ?_
  refine am_all.c (s_callV (q := (cn_V, ft_V, 6)) (by decide) (ce_V_expunge hN) rfl rfl tw_380 tw_381 tw_382 (by decide +kernel) rfl) ?_
  refine am_all.c (s_aload_n (kf := 2) (by decide +kernel) rfl rfl) ?_
  refine am_all.c (s_aload_n (kf := 0) (by decide +kernel) rfl rfl) ?_
  refine am_all.c (s_iload_n (kf := 3) (by decide +kernel) rfl rfl) ?_
  refine am_all.c (s_iconst (by decide +kernel) (by decide) rfl) ?_
  refine am_all.c (s_iadd (by decide +kernel) rfl) ?_
  refine am_all.c (s_sld hN hxs (show decode code 368 = .ok (.iaload, 1) by decide +kernel) rfl) ?_
  refine am_all.c (s_callV (q := (cn_M, ft_M, 21)) (by decide) (ce_M_expunge hN) rfl rfl tw_699 tw_700 tw_701 (by decide +kernel) rfl) ?_
  refine am_all.c (s_icmp_eq (off := 348) (by decide +kernel) (by decide) rfl) ?_
  refine am_all.c (s_iconst (by decide +kernel) (by decide) rfl) ?_
  refine am_all.c (s_zret (by decide +kernel) rfl) ?_
  refine am_all.c (s_aload_n (kf := 1) (by decide +kernel) rfl rfl) ?_
  refine am_all.c (s_aload_n (kf := 0) (by decide +kernel) rfl rfl) ?_
  refine am_all.c (s_iload_n (kf := 3) (by decide +kernel) rfl rfl) ?_
  refine am_all.c (s_iconst (by decide +kernel) (by decide) rfl) ?_
  refine am_all.c (s_iadd (by decide +kernel) rfl) ?_
  refine am_all.c (s_sld hN hxs (show decode code 382 = .ok (.iaload, 1) by decide +kernel) rfl) ?_
  refine am_all.c (s_aload_n (kf := 0) (by decide +kernel) rfl rfl) ?_
  refine am_all.c (s_iload_n (kf := 3) (by decide +kernel) rfl rfl) ?_
  refine am_all.c (s_iconst (by decide +kernel) (by decide) rfl) ?_
  refine am_all.c (s_iadd (by decide +kernel) rfl) ?_
  refine am_all.c (s_sld hN hxs (show decode code 387 = .ok (.iaload, 1) by decide +kernel) rfl) ?_
  refine am_all.c (s_aload_n (kf := 0) (by decide +kernel) rfl rfl) ?_
  refine am_all.c (s_iload_n (kf := 3) (by decide +kernel) rfl rfl) ?_
  refine am_all.c (s_iconst (by decide +kernel) (by decide) rfl) ?_
  refine am_all.c (s_iadd (by decide +kernel) rfl) ?_
  refine am_all.c (s_sld hN hxs (show decode code 392 = .ok (.iaload, 1) by decide +kernel) rfl) ?_
  refine am_all.c (s_callV (q := (cn_V, ft_V, 6)) (by decide) (ce_V_copy hN) rfl rfl tw_384 tw_385 tw_386 (by decide +kernel) rfl) ?_
  refine am_all.c (s_aload_n (kf := 2) (by decide +kernel) rfl rfl) ?_
  refine am_all.c (s_aload_n (kf := 0) (by decide +kernel) rfl rfl) ?_
  refine am_all.c (s_iload_n (kf := 3) (by decide +kernel) rfl rfl) ?_
  refine am_all.c (s_iconst (by decide +kernel) (by decide) rfl) ?_
  refine am_all.c (s_iadd (by decide +kernel) rfl) ?_
  refine am_all.c (s_sld hN hxs (show decode code 401 = .ok (.iaload, 1) by decide +kernel) rfl) ?_
  refine am_all.c (s_aload_n (kf := 0) (by decide +kernel) rfl rfl) ?_
  refine am_all.c (s_iload_n (kf := 3) (by decide +kernel) rfl rfl) ?_
  refine am_all.c (s_iconst (by decide +kernel) (by decide) rfl) ?_
  refine am_all.c (s_iadd (by decide +kernel) rfl) ?_
  refine am_all.c (s_sld hN hxs (show decode code 406 = .ok (.iaload, 1) by decide +kernel) rfl) ?_
  refine am_all.c (s_aload_n (kf := 0) (by decide +kernel) rfl rfl) ?_
  refine am_all.c (s_iload_n (kf := 3) (by decide +kernel) rfl rfl) ?_
  refine am_all.c (s_iconst (by decide +kernel) (by decide) rfl) ?_
  refine am_all.c (s_iadd (by decide +kernel) rfl) ?_
  refine am_all.c (s_sld hN hxs (show decode code 411 = .ok (.iaload, 1) by decide +kernel) rfl) ?_
  refine am_all.c (s_callV (q := (cn_M, ft_M, 21)) (by decide) (ce_M_copy hN) rfl rfl tw_703 tw_704 tw_705 (by decide +kernel) rfl) ?_
  refine am_all.c (s_icmp_eq (off := 305) (by decide +kernel) (by decide) rfl) ?_
  refine am_all.c (s_iconst (by decide +kernel) (by decide) rfl) ?_
  refine am_all.c (s_zret (by decide +kernel) rfl) ?_
  refine am_all.c (s_aload_n (kf := 1) (by decide +kernel) rfl rfl) ?_
  refine am_all.c (s_aload_n (kf := 0) (by decide +kernel) rfl rfl) ?_
  refine am_all.c (s_iload_n (kf := 3) (by decide +kernel) rfl rfl) ?_
  refine am_all.c (s_iconst (by decide +kernel) (by decide) rfl) ?_
  refine am_all.c (s_iadd (by decide +kernel) rfl) ?_
  refine am_all.c (s_sld hN hxs (show decode code 425 = .ok (.iaload, 1) by decide +kernel) rfl) ?_
  refine am_all.c (s_aload_n (kf := 0) (by decide +kernel) rfl rfl) ?_
  refine am_all.c (s_iload_n (kf := 3) (by decide +kernel) rfl rfl) ?_
  refine am_all.c (s_iconst (by decide +kernel) (by decide) rfl) ?_
  refine am_all.c (s_iadd (by decide +kernel) rfl) ?_
  refine am_all.c (s_sld hN hxs (show decode code 430 = .ok (.iaload, 1) by decide +kernel) rfl) ?_
  refine am_all.c (s_aload_n (kf := 0) (by decide +kernel) rfl rfl) ?_
  refine am_all.c (s_iload_n (kf := 3) (by decide +kernel) rfl rfl) ?_
  refine am_all.c (s_iconst (by decide +kernel) (by decide) rfl) ?_
  refine am_all.c (s_iadd (by decide +kernel) rfl) ?_
  refine am_all.c (s_sld hN hxs (show decode code 435 = .ok (.iaload, 1) by decide +kernel) rfl) ?_
  refine am_all.c (s_callV (q := (cn_V, ft_V, 6)) (by decide) (ce_V_criterion hN) rfl rfl tw_388 tw_389 tw_390 (by decide +kernel) rfl) ?_
  refine am_all.c (s_aload_n (kf := 2) (by decide +kernel) rfl rfl) ?_
  refine am_all.c (s_aload_n (kf := 0) (by decide +kernel) rfl rfl) ?_
  refine am_all.c (s_iload_n (kf := 3) (by decide +kernel) rfl rfl) ?_
  refine am_all.c (s_iconst (by decide +kernel) (by decide) rfl) ?_
  refine am_all.c (s_iadd (by decide +kernel) rfl) ?_
  refine am_all.c (s_sld hN hxs (show decode code 444 = .ok (.iaload, 1) by decide +kernel) rfl) ?_
  refine am_all.c (s_aload_n (kf := 0) (by decide +kernel) rfl rfl) ?_
  refine am_all.c (s_iload_n (kf := 3) (by decide +kernel) rfl rfl) ?_
  refine am_all.c (s_iconst (by decide +kernel) (by decide) rfl) ?_
  refine am_all.c (s_iadd (by decide +kernel) rfl) ?_
  refine am_all.c (s_sld hN hxs (show decode code 449 = .ok (.iaload, 1) by decide +kernel) rfl) ?_
  refine am_all.c (s_aload_n (kf := 0) (by decide +kernel) rfl rfl) ?_
  refine am_all.c (s_iload_n (kf := 3) (by decide +kernel) rfl rfl) ?_
  refine am_all.c (s_iconst (by decide +kernel) (by decide) rfl) ?_
  refine am_all.c (s_iadd (by decide +kernel) rfl) ?_
  refine am_all.c (s_sld hN hxs (show decode code 454 = .ok (.iaload, 1) by decide +kernel) rfl) ?_
  refine am_all.c (s_callV (q := (cn_M, ft_M, 21)) (by decide) (ce_M_criterion hN) rfl rfl tw_707 tw_708 tw_709 (by decide +kernel) rfl) ?_
  refine am_all.c (s_icmp_eq (off := 262) (by decide +kernel) (by decide) rfl) ?_
  refine am_all.c (s_iconst (by decide +kernel) (by decide) rfl) ?_
  refine am_all.c (s_zret (by decide +kernel) rfl) ?_
  refine am_all.c (s_aload_n (kf := 1) (by decide +kernel) rfl rfl) ?_
  refine am_all.c (s_aload_n (kf := 0) (by decide +kernel) rfl rfl) ?_
  refine am_all.c (s_iload_n (kf := 3) (by decide +kernel) rfl rfl) ?_
  refine am_all.c (s_iconst (by decide +kernel) (by decide) rfl) ?_
  refine am_all.c (s_iadd (by decide +kernel) rfl) ?_
  refine am_all.c (s_sld hN hxs (show decode code 468 = .ok (.iaload, 1) by decide +kernel) rfl) ?_
  refine am_all.c (s_callV (q := (cn_V, ft_V, 6)) (by decide) (ce_V_search hN) rfl rfl tw_407 tw_408 tw_409 (by decide +kernel) rfl) ?_
  refine am_all.c (s_aload_n (kf := 2) (by decide +kernel) rfl rfl) ?_
  refine am_all.c (s_aload_n (kf := 0) (by decide +kernel) rfl rfl) ?_
  refine am_all.c (s_iload_n (kf := 3) (by decide +kernel) rfl rfl) ?_
  refine am_all.c (s_iconst (by decide +kernel) (by decide) rfl) ?_
  refine am_all.c (s_iadd (by decide +kernel) rfl) ?_
  refine am_all.c (s_sld hN hxs (show decode code 477 = .ok (.iaload, 1) by decide +kernel) rfl) ?_
  refine am_all.c (s_callV (q := (cn_M, ft_M, 21)) (by decide) (ce_M_search hN) rfl rfl tw_711 tw_712 tw_713 (by decide +kernel) rfl) ?_
  refine am_all.c (s_icmp_eq (off := 239) (by decide +kernel) (by decide) rfl) ?_
  refine am_all.c (s_iconst (by decide +kernel) (by decide) rfl) ?_
  refine am_all.c (s_zret (by decide +kernel) rfl) ?_
  refine am_all.c (s_aload_n (kf := 1) (by decide +kernel) rfl rfl) ?_
  refine am_all.c (s_aload_n (kf := 0) (by decide +kernel) rfl rfl) ?_
  refine am_all.c (s_iload_n (kf := 3) (by decide +kernel) rfl rfl) ?_
  refine am_all.c (s_iconst (by decide +kernel) (by decide) rfl) ?_
  refine am_all.c (s_iadd (by decide +kernel) rfl) ?_
  refine am_all.c (s_sld hN hxs (show decode code 491 = .ok (.iaload, 1) by decide +kernel) rfl) ?_
  refine am_all.c (s_callV (q := (cn_V, ft_V, 6)) (by decide) (ce_V_found hN) rfl rfl tw_457 tw_458 tw_459 (by decide +kernel) rfl) ?_
  refine am_all.c (s_aload_n (kf := 2) (by decide +kernel) rfl rfl) ?_
  refine am_all.c (s_aload_n (kf := 0) (by decide +kernel) rfl rfl) ?_
  refine am_all.c (s_iload_n (kf := 3) (by decide +kernel) rfl rfl) ?_
  refine am_all.c (s_iconst (by decide +kernel) (by decide) rfl) ?_
  refine am_all.c (s_iadd (by decide +kernel) rfl) ?_
  refine am_all.c (s_sld hN hxs (show decode code 500 = .ok (.iaload, 1) by decide +kernel) rfl) ?_
  refine am_all.c (s_callV (q := (cn_M, ft_M, 21)) (by decide) (ce_M_found hN) rfl rfl tw_731 tw_732 tw_733 (by decide +kernel) rfl) ?_
  refine am_all.c (s_icmp_eq (off := 216) (by decide +kernel) (by decide) rfl) ?_
  refine am_all.c (s_iconst (by decide +kernel) (by decide) rfl) ?_
  refine am_all.c (s_zret (by decide +kernel) rfl) ?_
  refine am_all.c (s_aload_n (kf := 1) (by decide +kernel) rfl rfl) ?_
  refine am_all.c (s_callV (q := (cn_V, ft_V, 6)) (by decide) (ce_V_sync hN) rfl rfl tw_461 tw_462 tw_463 (by decide +kernel) rfl) ?_
  refine am_all.c (s_aload_n (kf := 2) (by decide +kernel) rfl rfl) ?_
  refine am_all.c (s_callV (q := (cn_M, ft_M, 21)) (by decide) (ce_M_sync hN) rfl rfl tw_735 tw_736 tw_737 (by decide +kernel) rfl) ?_
  refine am_all.c (s_icmp_eq (off := 203) (by decide +kernel) (by decide) rfl) ?_
  refine am_all.c (s_iconst (by decide +kernel) (by decide) rfl) ?_
  refine am_all.c (s_zret (by decide +kernel) rfl) ?_
  refine am_all.c (s_aload_n (kf := 1) (by decide +kernel) rfl rfl) ?_
  refine am_all.c (s_callV (q := (cn_V, ft_V, 6)) (by decide) (ce_V_crash hN) rfl rfl tw_470 tw_471 tw_472 (by decide +kernel) rfl) ?_
  refine am_all.c (s_aload_n (kf := 2) (by decide +kernel) rfl rfl) ?_
  refine am_all.c (s_callV (q := (cn_M, ft_M, 21)) (by decide) (ce_M_crash hN) rfl rfl tw_739 tw_740 tw_741 (by decide +kernel) rfl) ?_
  refine am_all.c (s_icmp_eq (off := 190) (by decide +kernel) (by decide) rfl) ?_
  refine am_all.c (s_iconst (by decide +kernel) (by decide) rfl) ?_
  refine am_all.c (s_zret (by decide +kernel) rfl) ?_
  refine am_all.c (s_aload_n (kf := 1) (by decide +kernel) rfl rfl) ?_
  refine am_all.c (s_aload_n (kf := 0) (by decide +kernel) rfl rfl) ?_
  refine am_all.c (s_iload_n (kf := 3) (by decide +kernel) rfl rfl) ?_
  refine am_all.c (s_iconst (by decide +kernel) (by decide) rfl) ?_
  refine am_all.c (s_iadd (by decide +kernel) rfl) ?_
  refine am_all.c (s_sld hN hxs (show decode code 540 = .ok (.iaload, 1) by decide +kernel) rfl) ?_
  refine am_all.c (s_aload_n (kf := 0) (by decide +kernel) rfl rfl) ?_
  refine am_all.c (s_iload_n (kf := 3) (by decide +kernel) rfl rfl) ?_
  refine am_all.c (s_iconst (by decide +kernel) (by decide) rfl) ?_
  refine am_all.c (s_iadd (by decide +kernel) rfl) ?_
  refine am_all.c (s_sld hN hxs (show decode code 545 = .ok (.iaload, 1) by decide +kernel) rfl) ?_
  refine am_all.c (s_aload_n (kf := 0) (by decide +kernel) rfl rfl) ?_
  refine am_all.c (s_iload_n (kf := 3) (by decide +kernel) rfl rfl) ?_
  refine am_all.c (s_iconst (by decide +kernel) (by decide) rfl) ?_
  refine am_all.c (s_iadd (by decide +kernel) rfl) ?_
  refine am_all.c (s_sld hN hxs (show decode code 550 = .ok (.iaload, 1) by decide +kernel) rfl) ?_
  refine am_all.c (s_callV (q := (cn_V, ft_V, 6)) (by decide) (ce_V_message hN) rfl rfl tw_501 tw_502 tw_503 (by decide +kernel) rfl) ?_
  refine am_all.c (s_aload_n (kf := 2) (by decide +kernel) rfl rfl) ?_
  refine am_all.c (s_aload_n (kf := 0) (by decide +kernel) rfl rfl) ?_
  refine am_all.c (s_iload_n (kf := 3) (by decide +kernel) rfl rfl) ?_
  refine am_all.c (s_iconst (by decide +kernel) (by decide) rfl) ?_
  refine am_all.c (s_iadd (by decide +kernel) rfl) ?_
  refine am_all.c (s_sld hN hxs (show decode code 559 = .ok (.iaload, 1) by decide +kernel) rfl) ?_
  refine am_all.c (s_aload_n (kf := 0) (by decide +kernel) rfl rfl) ?_
  refine am_all.c (s_iload_n (kf := 3) (by decide +kernel) rfl rfl) ?_
  refine am_all.c (s_iconst (by decide +kernel) (by decide) rfl) ?_
  refine am_all.c (s_iadd (by decide +kernel) rfl) ?_
  refine am_all.c (s_sld hN hxs (show decode code 564 = .ok (.iaload, 1) by decide +kernel) rfl) ?_
  refine am_all.c (s_aload_n (kf := 0) (by decide +kernel) rfl rfl) ?_
  refine am_all.c (s_iload_n (kf := 3) (by decide +kernel) rfl rfl) ?_
  refine am_all.c (s_iconst (by decide +kernel) (by decide) rfl) ?_
  refine am_all.c (s_iadd (by decide +kernel) rfl) ?_
  refine am_all.c (s_sld hN hxs (show decode code 569 = .ok (.iaload, 1) by decide +kernel) rfl) ?_
  refine am_all.c (s_callV (q := (cn_M, ft_M, 21)) (by decide) (ce_M_message hN) rfl rfl tw_743 tw_744 tw_745 (by decide +kernel) rfl) ?_
  refine am_all.c (s_icmp_eq (off := 147) (by decide +kernel) (by decide) rfl) ?_
  refine am_all.c (s_iconst (by decide +kernel) (by decide) rfl) ?_
  refine am_all.c (s_zret (by decide +kernel) rfl) ?_
  refine am_all.c (s_aload_n (kf := 1) (by decide +kernel) rfl rfl) ?_
  refine am_all.c (s_aload_n (kf := 0) (by decide +kernel) rfl rfl) ?_
  refine am_all.c (s_iload_n (kf := 3) (by decide +kernel) rfl rfl) ?_
  refine am_all.c (s_iconst (by decide +kernel) (by decide) rfl) ?_
  refine am_all.c (s_iadd (by decide +kernel) rfl) ?_
  refine am_all.c (s_sld hN hxs (show decode code 583 = .ok (.iaload, 1) by decide +kernel) rfl) ?_
  refine am_all.c (s_aload_n (kf := 0) (by decide +kernel) rfl rfl) ?_
  refine am_all.c (s_iload_n (kf := 3) (by decide +kernel) rfl rfl) ?_
  refine am_all.c (s_iconst (by decide +kernel) (by decide) rfl) ?_
  refine am_all.c (s_iadd (by decide +kernel) rfl) ?_
  refine am_all.c (s_sld hN hxs (show decode code 588 = .ok (.iaload, 1) by decide +kernel) rfl) ?_
  refine am_all.c (s_aload_n (kf := 0) (by decide +kernel) rfl rfl) ?_
  refine am_all.c (s_iload_n (kf := 3) (by decide +kernel) rfl rfl) ?_
  refine am_all.c (s_iconst (by decide +kernel) (by decide) rfl) ?_
  refine am_all.c (s_iadd (by decide +kernel) rfl) ?_
  refine am_all.c (s_sld hN hxs (show decode code 593 = .ok (.iaload, 1) by decide +kernel) rfl) ?_
  refine am_all.c (s_callV (q := (cn_V, ft_V, 6)) (by decide) (ce_V_seen hN) rfl rfl tw_505 tw_506 tw_507 (by decide +kernel) rfl) ?_
  refine am_all.c (s_aload_n (kf := 2) (by decide +kernel) rfl rfl) ?_
  refine am_all.c (s_aload_n (kf := 0) (by decide +kernel) rfl rfl) ?_
  refine am_all.c (s_iload_n (kf := 3) (by decide +kernel) rfl rfl) ?_
  refine am_all.c (s_iconst (by decide +kernel) (by decide) rfl) ?_
  refine am_all.c (s_iadd (by decide +kernel) rfl) ?_
  refine am_all.c (s_sld hN hxs (show decode code 602 = .ok (.iaload, 1) by decide +kernel) rfl) ?_
  refine am_all.c (s_aload_n (kf := 0) (by decide +kernel) rfl rfl) ?_
  refine am_all.c (s_iload_n (kf := 3) (by decide +kernel) rfl rfl) ?_
  refine am_all.c (s_iconst (by decide +kernel) (by decide) rfl) ?_
  refine am_all.c (s_iadd (by decide +kernel) rfl) ?_
  refine am_all.c (s_sld hN hxs (show decode code 607 = .ok (.iaload, 1) by decide +kernel) rfl) ?_
  refine am_all.c (s_aload_n (kf := 0) (by decide +kernel) rfl rfl) ?_
  refine am_all.c (s_iload_n (kf := 3) (by decide +kernel) rfl rfl) ?_
  refine am_all.c (s_iconst (by decide +kernel) (by decide) rfl) ?_
  refine am_all.c (s_iadd (by decide +kernel) rfl) ?_
  refine am_all.c (s_sld hN hxs (show decode code 612 = .ok (.iaload, 1) by decide +kernel) rfl) ?_
  refine am_all.c (s_callV (q := (cn_M, ft_M, 21)) (by decide) (ce_M_seen hN) rfl rfl tw_747 tw_748 tw_749 (by decide +kernel) rfl) ?_
  refine am_all.c (s_icmp_eq (off := 104) (by decide +kernel) (by decide) rfl) ?_
  refine am_all.c (s_iconst (by decide +kernel) (by decide) rfl) ?_
  refine am_all.c (s_zret (by decide +kernel) rfl) ?_
  refine am_all.c (s_aload_n (kf := 1) (by decide +kernel) rfl rfl) ?_
  refine am_all.c (s_aload_n (kf := 0) (by decide +kernel) rfl rfl) ?_
  refine am_all.c (s_iload_n (kf := 3) (by decide +kernel) rfl rfl) ?_
  refine am_all.c (s_iconst (by decide +kernel) (by decide) rfl) ?_
  refine am_all.c (s_iadd (by decide +kernel) rfl) ?_
  refine am_all.c (s_sld hN hxs (show decode code 626 = .ok (.iaload, 1) by decide +kernel) rfl) ?_
  refine am_all.c (s_aload_n (kf := 0) (by decide +kernel) rfl rfl) ?_
  refine am_all.c (s_iload_n (kf := 3) (by decide +kernel) rfl rfl) ?_
  refine am_all.c (s_iconst (by decide +kernel) (by decide) rfl) ?_
  refine am_all.c (s_iadd (by decide +kernel) rfl) ?_
  refine am_all.c (s_sld hN hxs (show decode code 631 = .ok (.iaload, 1) by decide +kernel) rfl) ?_
  refine am_all.c (s_aload_n (kf := 0) (by decide +kernel) rfl rfl) ?_
  refine am_all.c (s_iload_n (kf := 3) (by decide +kernel) rfl rfl) ?_
  refine am_all.c (s_iconst (by decide +kernel) (by decide) rfl) ?_
  refine am_all.c (s_iadd (by decide +kernel) rfl) ?_
  refine am_all.c (s_sld hN hxs (show decode code 636 = .ok (.iaload, 1) by decide +kernel) rfl) ?_
  refine am_all.c (s_callV (q := (cn_V, ft_V, 6)) (by decide) (ce_V_notice hN) rfl rfl tw_510 tw_511 tw_512 (by decide +kernel) rfl) ?_
  refine am_all.c (s_aload_n (kf := 2) (by decide +kernel) rfl rfl) ?_
  refine am_all.c (s_aload_n (kf := 0) (by decide +kernel) rfl rfl) ?_
  refine am_all.c (s_iload_n (kf := 3) (by decide +kernel) rfl rfl) ?_
  refine am_all.c (s_iconst (by decide +kernel) (by decide) rfl) ?_
  refine am_all.c (s_iadd (by decide +kernel) rfl) ?_
  refine am_all.c (s_sld hN hxs (show decode code 645 = .ok (.iaload, 1) by decide +kernel) rfl) ?_
  refine am_all.c (s_aload_n (kf := 0) (by decide +kernel) rfl rfl) ?_
  refine am_all.c (s_iload_n (kf := 3) (by decide +kernel) rfl rfl) ?_
  refine am_all.c (s_iconst (by decide +kernel) (by decide) rfl) ?_
  refine am_all.c (s_iadd (by decide +kernel) rfl) ?_
  refine am_all.c (s_sld hN hxs (show decode code 650 = .ok (.iaload, 1) by decide +kernel) rfl) ?_
  refine am_all.c (s_aload_n (kf := 0) (by decide +kernel) rfl rfl) ?_
  refine am_all.c (s_iload_n (kf := 3) (by decide +kernel) rfl rfl) ?_
  refine am_all.c (s_iconst (by decide +kernel) (by decide) rfl) ?_
  refine am_all.c (s_iadd (by decide +kernel) rfl) ?_
  refine am_all.c (s_sld hN hxs (show decode code 655 = .ok (.iaload, 1) by decide +kernel) rfl) ?_
  refine am_all.c (s_callV (q := (cn_M, ft_M, 21)) (by decide) (ce_M_notice hN) rfl rfl tw_751 tw_752 tw_753 (by decide +kernel) rfl) ?_
  refine am_all.c (s_icmp_eq (off := 61) (by decide +kernel) (by decide) rfl) ?_
  refine am_all.c (s_iconst (by decide +kernel) (by decide) rfl) ?_
  refine am_all.c (s_zret (by decide +kernel) rfl) ?_
  refine am_all.c (s_aload_n (kf := 1) (by decide +kernel) rfl rfl) ?_
  refine am_all.c (s_aload_n (kf := 0) (by decide +kernel) rfl rfl) ?_
  refine am_all.c (s_iload_n (kf := 3) (by decide +kernel) rfl rfl) ?_
  refine am_all.c (s_iconst (by decide +kernel) (by decide) rfl) ?_
  refine am_all.c (s_iadd (by decide +kernel) rfl) ?_
  refine am_all.c (s_sld hN hxs (show decode code 669 = .ok (.iaload, 1) by decide +kernel) rfl) ?_
  refine am_all.c (s_aload_n (kf := 0) (by decide +kernel) rfl rfl) ?_
  refine am_all.c (s_iload_n (kf := 3) (by decide +kernel) rfl rfl) ?_
  refine am_all.c (s_iconst (by decide +kernel) (by decide) rfl) ?_
  refine am_all.c (s_iadd (by decide +kernel) rfl) ?_
  refine am_all.c (s_sld hN hxs (show decode code 674 = .ok (.iaload, 1) by decide +kernel) rfl) ?_
  refine am_all.c (s_callV (q := (cn_V, ft_V, 6)) (by decide) (ce_V_mailbox hN) rfl rfl tw_522 tw_523 tw_524 (by decide +kernel) rfl) ?_
  refine am_all.c (s_aload_n (kf := 2) (by decide +kernel) rfl rfl) ?_
  refine am_all.c (s_aload_n (kf := 0) (by decide +kernel) rfl rfl) ?_
  refine am_all.c (s_iload_n (kf := 3) (by decide +kernel) rfl rfl) ?_
  refine am_all.c (s_iconst (by decide +kernel) (by decide) rfl) ?_
  refine am_all.c (s_iadd (by decide +kernel) rfl) ?_
  refine am_all.c (s_sld hN hxs (show decode code 683 = .ok (.iaload, 1) by decide +kernel) rfl) ?_
  refine am_all.c (s_aload_n (kf := 0) (by decide +kernel) rfl rfl) ?_
  refine am_all.c (s_iload_n (kf := 3) (by decide +kernel) rfl rfl) ?_
  refine am_all.c (s_iconst (by decide +kernel) (by decide) rfl) ?_
  refine am_all.c (s_iadd (by decide +kernel) rfl) ?_
  refine am_all.c (s_sld hN hxs (show decode code 688 = .ok (.iaload, 1) by decide +kernel) rfl) ?_
  refine am_all.c (s_callV (q := (cn_M, ft_M, 21)) (by decide) (ce_M_mailbox hN) rfl rfl tw_755 tw_756 tw_757 (by decide +kernel) rfl) ?_
  refine am_all.c (s_icmp_eq (off := 28) (by decide +kernel) (by decide) rfl) ?_
  refine am_all.c (s_iconst (by decide +kernel) (by decide) rfl) ?_
  refine am_all.c (s_zret (by decide +kernel) rfl) ?_
  refine am_all.c (s_aload_n (kf := 1) (by decide +kernel) rfl rfl) ?_
  refine am_all.c (s_aload_n (kf := 0) (by decide +kernel) rfl rfl) ?_
  refine am_all.c (s_iload_n (kf := 3) (by decide +kernel) rfl rfl) ?_
  refine am_all.c (s_iconst (by decide +kernel) (by decide) rfl) ?_
  refine am_all.c (s_iadd (by decide +kernel) rfl) ?_
  refine am_all.c (s_sld hN hxs (show decode code 702 = .ok (.iaload, 1) by decide +kernel) rfl) ?_
  refine am_all.c (s_callV (q := (cn_V, ft_V, 6)) (by decide) (ce_V_count hN) rfl rfl tw_538 tw_539 tw_540 (by decide +kernel) rfl) ?_
  refine am_all.c (s_aload_n (kf := 2) (by decide +kernel) rfl rfl) ?_
  refine am_all.c (s_aload_n (kf := 0) (by decide +kernel) rfl rfl) ?_
  refine am_all.c (s_iload_n (kf := 3) (by decide +kernel) rfl rfl) ?_
  refine am_all.c (s_iconst (by decide +kernel) (by decide) rfl) ?_
  refine am_all.c (s_iadd (by decide +kernel) rfl) ?_
  refine am_all.c (s_sld hN hxs (show decode code 711 = .ok (.iaload, 1) by decide +kernel) rfl) ?_
  refine am_all.c (s_callV (q := (cn_M, ft_M, 21)) (by decide) (ce_M_count hN) rfl rfl tw_759 tw_760 tw_761 (by decide +kernel) rfl) ?_
  refine am_all.c (s_icmp_eq (off := 5) (by decide +kernel) (by decide) rfl) ?_
  refine am_all.c (s_iconst (by decide +kernel) (by decide) rfl) ?_
  refine am_all.c (s_zret (by decide +kernel) rfl) ?_
  refine am_all.c (s_iinc (by decide +kernel) rfl) ?_
  refine am_all.c (s_goto (off := -705) (by decide +kernel) (by decide)) ?_
  refine am_all.c (s_iconst (by decide +kernel) (by decide) rfl) ?_
  refine am_all.c (s_zret (by decide +kernel) rfl) ?_
  exact trivial
theorem mv_each {D : va_G} {dA : Nat → ClassId} {h b L : Nat} {xs : Nat → Int32} (hN : am_nN (am_En D dA h b L xs)) : ∀ q ∈ mv_ms.drop 3, plainName q.1.1.cls = true ∧ Cond.code q.1.1 q.1.2.1 q.1.2.2.1 q.1.2.2.2 ∈ am_Tg ∧ am_all (am_En D dA h b L xs) mv_tb mv_P q.1 q.2 := by
  show ∀ q ∈ [(tV_init, kV_init), (tV_append, kV_append), (tV_select, kV_select), (tV_close, kV_close), (tV_check, kV_check), (tV_fetch, kV_fetch), (tV_store, kV_store), (tV_expunge, kV_expunge), (tV_copy, kV_copy), (tV_criterion, kV_criterion), (tV_search, kV_search), (tV_found, kV_found), (tV_sync, kV_sync), (tV_crash, kV_crash), (tV_message, kV_message), (tV_seen, kV_seen), (tV_notice, kV_notice), (tV_mailbox, kV_mailbox), (tV_count, kV_count), (tV_isMailbox, kV_isMailbox), (tV_isSession, kV_isSession), (tV_areFlags, kV_areFlags), (tV_hasMailbox, kV_hasMailbox), (tV_isInView, kV_isInView), (tV_mailboxOf, kV_mailboxOf), (tV_sessionsWith, kV_sessionsWith), (tV_update, kV_update), (tV_add, kV_add), (tV_removeDeleted, kV_removeDeleted), (tV_changedFlags, kV_changedFlags), (tV_findHits, kV_findHits), (tB_init, kB_init), (tB_messageCount, kB_messageCount), (tB_isFull, kB_isFull), (tB_nextUid, kB_nextUid), (tB_validity, kB_validity), (tB_growValidity, kB_growValidity), (tB_uidAt, kB_uidAt), (tB_flagsAt, kB_flagsAt), (tB_sizeAt, kB_sizeAt), (tB_setFlagsAt, kB_setFlagsAt), (tB_positionOf, kB_positionOf), (tB_addNew, kB_addNew), (tB_takeBackAdded, kB_takeBackAdded), (tB_insert, kB_insert), (tB_removeAt, kB_removeAt), (tB_restoreFlags, kB_restoreFlags), (tB_move, kB_move), (tJ_init, kJ_init), (tJ_changeCount, kJ_changeCount), (tJ_durableCount, kJ_durableCount), (tJ_noteAdded, kJ_noteAdded), (tJ_noteRemoved, kJ_noteRemoved), (tJ_noteFlagsSet, kJ_noteFlagsSet), (tJ_makeAllDurable, kJ_makeAllDurable), (tJ_hasOpenAdditionTo, kJ_hasOpenAdditionTo), (tJ_takeBackAll, kJ_takeBackAll), (tJ_takeBack, kJ_takeBack), (tJ_note, kJ_note), (tS_init, kS_init), (tS_open, kS_open), (tS_leave, kS_leave), (tS_mailboxNumber, kS_mailboxNumber), (tS_isReadOnly, kS_isReadOnly), (tS_viewLength, kS_viewLength), (tS_uidOf, kS_uidOf), (tS_knownFlagsOf, kS_knownFlagsOf), (tS_know, kS_know), (tS_noticeCount, kS_noticeCount), (tS_noticeKindAt, kS_noticeKindAt), (tS_noticeNumberAt, kS_noticeNumberAt), (tS_update, kS_update), (tS_dropGone, kS_dropGone), (tS_takeInNew, kS_takeInNew), (tS_learnFlags, kS_learnFlags), (tS_tell, kS_tell), (tC_init, kC_init), (tC_isOp, kC_isOp), (tC_tokenCount, kC_tokenCount), (tC_isFull, kC_isFull), (tC_wipe, kC_wipe), (tC_write, kC_write), (tC_isGood, kC_isGood), (tC_isFulfilledBy, kC_isFulfilledBy), (tC_measure, kC_measure), (tC_leafHolds, kC_leafHolds), (tC_joinHolds, kC_joinHolds), (tC_endFrom, kC_endFrom), (tC_depthFrom, kC_depthFrom), (tC_holdsFrom, kC_holdsFrom), (tM_init, kM_init), (tM_in, kM_in), (tM_place, kM_place), (tM_flagsOf, kM_flagsOf), (tM_apply, kM_apply), (tM_note, kM_note), (tM_add, kM_add), (tM_purge, kM_purge), (tM_append, kM_append), (tM_none, kM_none), (tM_bad, kM_bad), (tM_uidOf, kM_uidOf), (tM_gone, kM_gone), (tM_tell, kM_tell), (tM_leave, kM_leave), (tM_gather, kM_gather), (tM_update, kM_update), (tM_select, kM_select), (tM_close, kM_close), (tM_check, kM_check), (tM_fetch, kM_fetch), (tM_store, kM_store), (tM_expunge, kM_expunge), (tM_copy, kM_copy), (tM_criterion, kM_criterion), (tM_parts, kM_parts), (tM_good, kM_good), (tM_leaf, kM_leaf), (tM_fulfils, kM_fulfils), (tM_search, kM_search), (tM_found, kM_found), (tM_sync, kM_sync), (tM_crash, kM_crash), (tM_message, kM_message), (tM_seen, kM_seen), (tM_notice, kM_notice), (tM_mailbox, kM_mailbox), (tM_count, kM_count)], _
  refine List.forall_mem_cons.mpr ⟨⟨by decide +kernel, tw_51, ga_V_init hN⟩, ?_⟩
  refine List.forall_mem_cons.mpr ⟨⟨by decide +kernel, tw_196, ga_V_append hN⟩, ?_⟩
  refine List.forall_mem_cons.mpr ⟨⟨by decide +kernel, tw_239, ga_V_select hN⟩, ?_⟩
  refine List.forall_mem_cons.mpr ⟨⟨by decide +kernel, tw_270, ga_V_close hN⟩, ?_⟩
  refine List.forall_mem_cons.mpr ⟨⟨by decide +kernel, tw_309, ga_V_check hN⟩, ?_⟩
  refine List.forall_mem_cons.mpr ⟨⟨by decide +kernel, tw_357, ga_V_fetch hN⟩, ?_⟩
  refine List.forall_mem_cons.mpr ⟨⟨by decide +kernel, tw_368, ga_V_store hN⟩, ?_⟩
  refine List.forall_mem_cons.mpr ⟨⟨by decide +kernel, tw_383, ga_V_expunge hN⟩, ?_⟩
  refine List.forall_mem_cons.mpr ⟨⟨by decide +kernel, tw_387, ga_V_copy hN⟩, ?_⟩
  refine List.forall_mem_cons.mpr ⟨⟨by decide +kernel, tw_391, ga_V_criterion hN⟩, ?_⟩
  refine List.forall_mem_cons.mpr ⟨⟨by decide +kernel, tw_410, ga_V_search hN⟩, ?_⟩
  refine List.forall_mem_cons.mpr ⟨⟨by decide +kernel, tw_460, ga_V_found hN⟩, ?_⟩
  refine List.forall_mem_cons.mpr ⟨⟨by decide +kernel, tw_464, ga_V_sync hN⟩, ?_⟩
  refine List.forall_mem_cons.mpr ⟨⟨by decide +kernel, tw_473, ga_V_crash hN⟩, ?_⟩
  refine List.forall_mem_cons.mpr ⟨⟨by decide +kernel, tw_504, ga_V_message hN⟩, ?_⟩
  refine List.forall_mem_cons.mpr ⟨⟨by decide +kernel, tw_508, ga_V_seen hN⟩, ?_⟩
  refine List.forall_mem_cons.mpr ⟨⟨by decide +kernel, tw_513, ga_V_notice hN⟩, ?_⟩
  refine List.forall_mem_cons.mpr ⟨⟨by decide +kernel, tw_525, ga_V_mailbox hN⟩, ?_⟩
  refine List.forall_mem_cons.mpr ⟨⟨by decide +kernel, tw_541, ga_V_count hN⟩, ?_⟩
  refine List.forall_mem_cons.mpr ⟨⟨by decide +kernel, tw_199, ga_V_isMailbox hN⟩, ?_⟩
  refine List.forall_mem_cons.mpr ⟨⟨by decide +kernel, tw_242, ga_V_isSession hN⟩, ?_⟩
  refine List.forall_mem_cons.mpr ⟨⟨by decide +kernel, tw_202, ga_V_areFlags hN⟩, ?_⟩
  refine List.forall_mem_cons.mpr ⟨⟨by decide +kernel, tw_274, ga_V_hasMailbox hN⟩, ?_⟩
  refine List.forall_mem_cons.mpr ⟨⟨by decide +kernel, tw_361, ga_V_isInView hN⟩, ?_⟩
  refine List.forall_mem_cons.mpr ⟨⟨by decide +kernel, tw_317, ga_V_mailboxOf hN⟩, ?_⟩
  refine List.forall_mem_cons.mpr ⟨⟨by decide +kernel, tw_537, ga_V_sessionsWith hN⟩, ?_⟩
  refine List.forall_mem_cons.mpr ⟨⟨by decide +kernel, tw_313, ga_V_update hN⟩, ?_⟩
  refine List.forall_mem_cons.mpr ⟨⟨by decide +kernel, tw_206, ga_V_add hN⟩, ?_⟩
  refine List.forall_mem_cons.mpr ⟨⟨by decide +kernel, tw_286, ga_V_removeDeleted hN⟩, ?_⟩
  refine List.forall_mem_cons.mpr ⟨⟨by decide +kernel, tw_371, ga_V_changedFlags hN⟩, ?_⟩
  refine List.forall_mem_cons.mpr ⟨⟨by decide +kernel, tw_437, ga_V_findHits hN⟩, ?_⟩
  refine List.forall_mem_cons.mpr ⟨⟨by decide +kernel, tw_60, ga_B_init hN⟩, ?_⟩
  refine List.forall_mem_cons.mpr ⟨⟨by decide +kernel, tw_254, ga_B_messageCount hN⟩, ?_⟩
  refine List.forall_mem_cons.mpr ⟨⟨by decide +kernel, tw_210, ga_B_isFull hN⟩, ?_⟩
  refine List.forall_mem_cons.mpr ⟨⟨by decide +kernel, tw_529, ga_B_nextUid hN⟩, ?_⟩
  refine List.forall_mem_cons.mpr ⟨⟨by decide +kernel, tw_533, ga_B_validity hN⟩, ?_⟩
  refine List.forall_mem_cons.mpr ⟨⟨by decide +kernel, tw_481, ga_B_growValidity hN⟩, ?_⟩
  refine List.forall_mem_cons.mpr ⟨⟨by decide +kernel, tw_258, ga_B_uidAt hN⟩, ?_⟩
  refine List.forall_mem_cons.mpr ⟨⟨by decide +kernel, tw_262, ga_B_flagsAt hN⟩, ?_⟩
  refine List.forall_mem_cons.mpr ⟨⟨by decide +kernel, tw_293, ga_B_sizeAt hN⟩, ?_⟩
  refine List.forall_mem_cons.mpr ⟨⟨by decide +kernel, tw_375, ga_B_setFlagsAt hN⟩, ?_⟩
  refine List.forall_mem_cons.mpr ⟨⟨by decide +kernel, tw_329, ga_B_positionOf hN⟩, ?_⟩
  refine List.forall_mem_cons.mpr ⟨⟨by decide +kernel, tw_214, ga_B_addNew hN⟩, ?_⟩
  refine List.forall_mem_cons.mpr ⟨⟨by decide +kernel, tw_493, ga_B_takeBackAdded hN⟩, ?_⟩
  refine List.forall_mem_cons.mpr ⟨⟨by decide +kernel, tw_218, ga_B_insert hN⟩, ?_⟩
  refine List.forall_mem_cons.mpr ⟨⟨by decide +kernel, tw_301, ga_B_removeAt hN⟩, ?_⟩
  refine List.forall_mem_cons.mpr ⟨⟨by decide +kernel, tw_500, ga_B_restoreFlags hN⟩, ?_⟩
  refine List.forall_mem_cons.mpr ⟨⟨by decide +kernel, tw_223, ga_B_move hN⟩, ?_⟩
  refine List.forall_mem_cons.mpr ⟨⟨by decide +kernel, tw_121, ga_J_init hN⟩, ?_⟩
  refine List.forall_mem_cons.mpr ⟨⟨by decide +kernel, tw_469, ga_J_changeCount hN⟩, ?_⟩
  refine List.forall_mem_cons.mpr ⟨⟨by decide +kernel, tw_545, ga_J_durableCount hN⟩, ?_⟩
  refine List.forall_mem_cons.mpr ⟨⟨by decide +kernel, tw_227, ga_J_noteAdded hN⟩, ?_⟩
  refine List.forall_mem_cons.mpr ⟨⟨by decide +kernel, tw_297, ga_J_noteRemoved hN⟩, ?_⟩
  refine List.forall_mem_cons.mpr ⟨⟨by decide +kernel, tw_379, ga_J_noteFlagsSet hN⟩, ?_⟩
  refine List.forall_mem_cons.mpr ⟨⟨by decide +kernel, tw_235, ga_J_makeAllDurable hN⟩, ?_⟩
  refine List.forall_mem_cons.mpr ⟨⟨by decide +kernel, tw_477, ga_J_hasOpenAdditionTo hN⟩, ?_⟩
  refine List.forall_mem_cons.mpr ⟨⟨by decide +kernel, tw_485, ga_J_takeBackAll hN⟩, ?_⟩
  refine List.forall_mem_cons.mpr ⟨⟨by decide +kernel, tw_489, ga_J_takeBack hN⟩, ?_⟩
  refine List.forall_mem_cons.mpr ⟨⟨by decide +kernel, tw_231, ga_J_note hN⟩, ?_⟩
  refine List.forall_mem_cons.mpr ⟨⟨by decide +kernel, tw_87, ga_S_init hN⟩, ?_⟩
  refine List.forall_mem_cons.mpr ⟨⟨by decide +kernel, tw_246, ga_S_open hN⟩, ?_⟩
  refine List.forall_mem_cons.mpr ⟨⟨by decide +kernel, tw_305, ga_S_leave hN⟩, ?_⟩
  refine List.forall_mem_cons.mpr ⟨⟨by decide +kernel, tw_278, ga_S_mailboxNumber hN⟩, ?_⟩
  refine List.forall_mem_cons.mpr ⟨⟨by decide +kernel, tw_282, ga_S_isReadOnly hN⟩, ?_⟩
  refine List.forall_mem_cons.mpr ⟨⟨by decide +kernel, tw_266, ga_S_viewLength hN⟩, ?_⟩
  refine List.forall_mem_cons.mpr ⟨⟨by decide +kernel, tw_341, ga_S_uidOf hN⟩, ?_⟩
  refine List.forall_mem_cons.mpr ⟨⟨by decide +kernel, tw_345, ga_S_knownFlagsOf hN⟩, ?_⟩
  refine List.forall_mem_cons.mpr ⟨⟨by decide +kernel, tw_349, ga_S_know hN⟩, ?_⟩
  refine List.forall_mem_cons.mpr ⟨⟨by decide +kernel, tw_353, ga_S_noticeCount hN⟩, ?_⟩
  refine List.forall_mem_cons.mpr ⟨⟨by decide +kernel, tw_517, ga_S_noticeKindAt hN⟩, ?_⟩
  refine List.forall_mem_cons.mpr ⟨⟨by decide +kernel, tw_521, ga_S_noticeNumberAt hN⟩, ?_⟩
  refine List.forall_mem_cons.mpr ⟨⟨by decide +kernel, tw_321, ga_S_update hN⟩, ?_⟩
  refine List.forall_mem_cons.mpr ⟨⟨by decide +kernel, tw_325, ga_S_dropGone hN⟩, ?_⟩
  refine List.forall_mem_cons.mpr ⟨⟨by decide +kernel, tw_250, ga_S_takeInNew hN⟩, ?_⟩
  refine List.forall_mem_cons.mpr ⟨⟨by decide +kernel, tw_337, ga_S_learnFlags hN⟩, ?_⟩
  refine List.forall_mem_cons.mpr ⟨⟨by decide +kernel, tw_333, ga_S_tell hN⟩, ?_⟩
  refine List.forall_mem_cons.mpr ⟨⟨by decide +kernel, tw_149, ga_C_init hN⟩, ?_⟩
  refine List.forall_mem_cons.mpr ⟨⟨by decide +kernel, tw_394, ga_C_isOp hN⟩, ?_⟩
  refine List.forall_mem_cons.mpr ⟨⟨by decide +kernel, tw_406, ga_C_tokenCount hN⟩, ?_⟩
  refine List.forall_mem_cons.mpr ⟨⟨by decide +kernel, tw_398, ga_C_isFull hN⟩, ?_⟩
  refine List.forall_mem_cons.mpr ⟨⟨by decide +kernel, tw_433, ga_C_wipe hN⟩, ?_⟩
  refine List.forall_mem_cons.mpr ⟨⟨by decide +kernel, tw_402, ga_C_write hN⟩, ?_⟩
  refine List.forall_mem_cons.mpr ⟨⟨by decide +kernel, tw_414, ga_C_isGood hN⟩, ?_⟩
  refine List.forall_mem_cons.mpr ⟨⟨by decide +kernel, tw_441, ga_C_isFulfilledBy hN⟩, ?_⟩
  refine List.forall_mem_cons.mpr ⟨⟨by decide +kernel, tw_418, ga_C_measure hN⟩, ?_⟩
  refine List.forall_mem_cons.mpr ⟨⟨by decide +kernel, tw_445, ga_C_leafHolds hN⟩, ?_⟩
  refine List.forall_mem_cons.mpr ⟨⟨by decide +kernel, tw_452, ga_C_joinHolds hN⟩, ?_⟩
  refine List.forall_mem_cons.mpr ⟨⟨by decide +kernel, tw_422, ga_C_endFrom hN⟩, ?_⟩
  refine List.forall_mem_cons.mpr ⟨⟨by decide +kernel, tw_426, ga_C_depthFrom hN⟩, ?_⟩
  refine List.forall_mem_cons.mpr ⟨⟨by decide +kernel, tw_456, ga_C_holdsFrom hN⟩, ?_⟩
  refine List.forall_mem_cons.mpr ⟨⟨by decide +kernel, tw_550, ga_M_init hN⟩, ?_⟩
  refine List.forall_mem_cons.mpr ⟨⟨by decide +kernel, tw_622, ga_M_in hN⟩, ?_⟩
  refine List.forall_mem_cons.mpr ⟨⟨by decide +kernel, tw_638, ga_M_place hN⟩, ?_⟩
  refine List.forall_mem_cons.mpr ⟨⟨by decide +kernel, tw_686, ga_M_flagsOf hN⟩, ?_⟩
  refine List.forall_mem_cons.mpr ⟨⟨by decide +kernel, tw_634, ga_M_apply hN⟩, ?_⟩
  refine List.forall_mem_cons.mpr ⟨⟨by decide +kernel, tw_630, ga_M_note hN⟩, ?_⟩
  refine List.forall_mem_cons.mpr ⟨⟨by decide +kernel, tw_626, ga_M_add hN⟩, ?_⟩
  refine List.forall_mem_cons.mpr ⟨⟨by decide +kernel, tw_658, ga_M_purge hN⟩, ?_⟩
  refine List.forall_mem_cons.mpr ⟨⟨by decide +kernel, tw_619, ga_M_append hN⟩, ?_⟩
  refine List.forall_mem_cons.mpr ⟨⟨by decide +kernel, tw_654, ga_M_none hN⟩, ?_⟩
  refine List.forall_mem_cons.mpr ⟨⟨by decide +kernel, tw_694, ga_M_bad hN⟩, ?_⟩
  refine List.forall_mem_cons.mpr ⟨⟨by decide +kernel, tw_674, ga_M_uidOf hN⟩, ?_⟩
  refine List.forall_mem_cons.mpr ⟨⟨by decide +kernel, tw_670, ga_M_gone hN⟩, ?_⟩
  refine List.forall_mem_cons.mpr ⟨⟨by decide +kernel, tw_682, ga_M_tell hN⟩, ?_⟩
  refine List.forall_mem_cons.mpr ⟨⟨by decide +kernel, tw_678, ga_M_leave hN⟩, ?_⟩
  refine List.forall_mem_cons.mpr ⟨⟨by decide +kernel, tw_646, ga_M_gather hN⟩, ?_⟩
  refine List.forall_mem_cons.mpr ⟨⟨by decide +kernel, tw_666, ga_M_update hN⟩, ?_⟩
  refine List.forall_mem_cons.mpr ⟨⟨by decide +kernel, tw_642, ga_M_select hN⟩, ?_⟩
  refine List.forall_mem_cons.mpr ⟨⟨by decide +kernel, tw_650, ga_M_close hN⟩, ?_⟩
  refine List.forall_mem_cons.mpr ⟨⟨by decide +kernel, tw_662, ga_M_check hN⟩, ?_⟩
  refine List.forall_mem_cons.mpr ⟨⟨by decide +kernel, tw_690, ga_M_fetch hN⟩, ?_⟩
  refine List.forall_mem_cons.mpr ⟨⟨by decide +kernel, tw_698, ga_M_store hN⟩, ?_⟩
  refine List.forall_mem_cons.mpr ⟨⟨by decide +kernel, tw_702, ga_M_expunge hN⟩, ?_⟩
  refine List.forall_mem_cons.mpr ⟨⟨by decide +kernel, tw_706, ga_M_copy hN⟩, ?_⟩
  refine List.forall_mem_cons.mpr ⟨⟨by decide +kernel, tw_710, ga_M_criterion hN⟩, ?_⟩
  refine List.forall_mem_cons.mpr ⟨⟨by decide +kernel, tw_722, ga_M_parts hN⟩, ?_⟩
  refine List.forall_mem_cons.mpr ⟨⟨by decide +kernel, tw_718, ga_M_good hN⟩, ?_⟩
  refine List.forall_mem_cons.mpr ⟨⟨by decide +kernel, tw_730, ga_M_leaf hN⟩, ?_⟩
  refine List.forall_mem_cons.mpr ⟨⟨by decide +kernel, tw_726, ga_M_fulfils hN⟩, ?_⟩
  refine List.forall_mem_cons.mpr ⟨⟨by decide +kernel, tw_714, ga_M_search hN⟩, ?_⟩
  refine List.forall_mem_cons.mpr ⟨⟨by decide +kernel, tw_734, ga_M_found hN⟩, ?_⟩
  refine List.forall_mem_cons.mpr ⟨⟨by decide +kernel, tw_738, ga_M_sync hN⟩, ?_⟩
  refine List.forall_mem_cons.mpr ⟨⟨by decide +kernel, tw_742, ga_M_crash hN⟩, ?_⟩
  refine List.forall_mem_cons.mpr ⟨⟨by decide +kernel, tw_746, ga_M_message hN⟩, ?_⟩
  refine List.forall_mem_cons.mpr ⟨⟨by decide +kernel, tw_750, ga_M_seen hN⟩, ?_⟩
  refine List.forall_mem_cons.mpr ⟨⟨by decide +kernel, tw_754, ga_M_notice hN⟩, ?_⟩
  refine List.forall_mem_cons.mpr ⟨⟨by decide +kernel, tw_758, ga_M_mailbox hN⟩, ?_⟩
  refine List.forall_mem_cons.mpr ⟨⟨by decide +kernel, tw_762, ga_M_count hN⟩, ?_⟩
  exact fun _ h => absurd h List.not_mem_nil
theorem mv_prog {D : va_G} {dA : Nat → ClassId} {h b L : Nat} {xs : Nat → Int32} (hN : am_nN (am_En D dA h b L xs)) : am_Prog (am_En D dA h b L xs) mv_tb mv_P mv_J := by
  refine ⟨hN, am_Tg_ok, mv_P0, fun j h3 hj => ?_, fun j hj pc => ?_⟩
  · have hlen : mv_ms.length = mv_J := by decide +kernel
    have hlt : j < mv_ms.length := by rw [hlen]; exact hj
    have hq : mv_ms[j]? = some mv_ms[j] := List.getElem?_eq_getElem hlt
    generalize mv_ms[j] = q at hq
    have hm : q ∈ mv_ms.drop 3 := by
      refine List.mem_of_getElem? (i := j - 3) ?_
      rw [List.getElem?_drop, show 3 + (j - 3) = j by omega]
      exact hq
    obtain ⟨h1, h2, h3⟩ := mv_each hN q hm
    have e1 : mv_tb j = q.1 := by unfold mv_tb; rw [hq]
    have e2 : mv_P j = (q.1.2.2.1, am_at q.2) := by unfold mv_P; rw [hq]
    rw [e1, e2]
    exact ⟨rfl, h1, h2, am_all.get q.2 h3⟩
  · have hlen : mv_ms.length = mv_J := by decide +kernel
    have hq : mv_ms[j]? = none := List.getElem?_eq_none (by rw [hlen]; exact hj)
    have e2 : mv_P j = (0, fun _ => i_fail) := by unfold mv_P; rw [hq]
    rw [e2]
