/-! printed by wip/whole/gen/prog.py: names of classes, fields, words -/
def am_Tg : List Cond := lw_tbl.filter goodWord
theorem am_Tg_ok : ∀ w ∈ am_Tg, (w.onTables && w.keeps) = true ∨ ∃ ty, w = .arrayClass ty := fun w h => good_of_word (List.mem_filter.mp h).2
theorem tg (i : Nat) {w : Cond} (h : lw_tbl[i]? = some w) (hg : goodWord w = true) : w ∈ am_Tg := List.mem_filter.mpr ⟨List.mem_of_getElem? h, hg⟩
def cn_V : String := "MailViews"
def ft_V : u_T := fun k => match k with
  | 0 => ("MailViews", "mailboxes", "[LMailViews$Mailbox;", true)
  | 1 => ("MailViews", "sessions", "[LMailViews$Session;", true)
  | 2 => ("MailViews", "journal", "LMailViews$Journal;", true)
  | 3 => ("MailViews", "written", "LMailViews$Criterion;", true)
  | 4 => ("MailViews", "hits", "[I", true)
  | _ => ("MailViews", "hitCount", "I", false)
def fy_V : Nat → FieldType := fun k => match k with
  | 0 => .array (.object "MailViews$Mailbox")
  | 1 => .array (.object "MailViews$Session")
  | 2 => .object "MailViews$Journal"
  | 3 => .object "MailViews$Criterion"
  | 4 => .array .int
  | _ => .int
theorem fn_V : ∀ a, a < 6 → ∀ b, b < 6 → a ≠ b → (ft_V a).2.1 ≠ (ft_V b).2.1 := by decide +kernel
theorem fo_V : ∀ k, k < 6 → parseFieldDescriptor (ft_V k).2.2.1 = some (fy_V k) := by decide +kernel
theorem fi_V : ∀ w ∈ u_ws cn_V ft_V 6, w ∈ am_Tg := by
  intro w hw
  obtain ⟨k, hk, rfl⟩ := List.mem_map.mp hw
  have hk := List.mem_range.mp hk
  rcases (show k = 0 ∨ k = 1 ∨ k = 2 ∨ k = 3 ∨ k = 4 ∨ k = 5 by omega) with rfl | rfl | rfl | rfl | rfl | rfl
  · exact tg 180 (by decide +kernel) (by decide +kernel)
  · exact tg 182 (by decide +kernel) (by decide +kernel)
  · exact tg 184 (by decide +kernel) (by decide +kernel)
  · exact tg 186 (by decide +kernel) (by decide +kernel)
  · exact tg 188 (by decide +kernel) (by decide +kernel)
  · exact tg 190 (by decide +kernel) (by decide +kernel)
def cn_B : String := "MailViews$Mailbox"
def ft_B : u_T := fun k => match k with
  | 0 => ("MailViews$Mailbox", "uids", "[I", true)
  | 1 => ("MailViews$Mailbox", "flags", "[I", true)
  | 2 => ("MailViews$Mailbox", "sizes", "[I", true)
  | 3 => ("MailViews$Mailbox", "length", "I", false)
  | 4 => ("MailViews$Mailbox", "nextUid", "I", false)
  | _ => ("MailViews$Mailbox", "validity", "I", false)
def fy_B : Nat → FieldType := fun k => match k with
  | 0 => .array .int
  | 1 => .array .int
  | 2 => .array .int
  | 3 => .int
  | 4 => .int
  | _ => .int
theorem fn_B : ∀ a, a < 6 → ∀ b, b < 6 → a ≠ b → (ft_B a).2.1 ≠ (ft_B b).2.1 := by decide +kernel
theorem fo_B : ∀ k, k < 6 → parseFieldDescriptor (ft_B k).2.2.1 = some (fy_B k) := by decide +kernel
theorem fi_B : ∀ w ∈ u_ws cn_B ft_B 6, w ∈ am_Tg := by
  intro w hw
  obtain ⟨k, hk, rfl⟩ := List.mem_map.mp hw
  have hk := List.mem_range.mp hk
  rcases (show k = 0 ∨ k = 1 ∨ k = 2 ∨ k = 3 ∨ k = 4 ∨ k = 5 by omega) with rfl | rfl | rfl | rfl | rfl | rfl
  · exact tg 68 (by decide +kernel) (by decide +kernel)
  · exact tg 70 (by decide +kernel) (by decide +kernel)
  · exact tg 72 (by decide +kernel) (by decide +kernel)
  · exact tg 74 (by decide +kernel) (by decide +kernel)
  · exact tg 76 (by decide +kernel) (by decide +kernel)
  · exact tg 78 (by decide +kernel) (by decide +kernel)
def cn_J : String := "MailViews$Journal"
def ft_J : u_T := fun k => match k with
  | 0 => ("MailViews$Journal", "kinds", "[I", true)
  | 1 => ("MailViews$Journal", "boxes", "[I", true)
  | 2 => ("MailViews$Journal", "uids", "[I", true)
  | 3 => ("MailViews$Journal", "oldFlags", "[I", true)
  | 4 => ("MailViews$Journal", "oldSizes", "[I", true)
  | 5 => ("MailViews$Journal", "open", "I", false)
  | _ => ("MailViews$Journal", "durable", "I", false)
def fy_J : Nat → FieldType := fun k => match k with
  | 0 => .array .int
  | 1 => .array .int
  | 2 => .array .int
  | 3 => .array .int
  | 4 => .array .int
  | 5 => .int
  | _ => .int
theorem fn_J : ∀ a, a < 7 → ∀ b, b < 7 → a ≠ b → (ft_J a).2.1 ≠ (ft_J b).2.1 := by decide +kernel
theorem fo_J : ∀ k, k < 7 → parseFieldDescriptor (ft_J k).2.2.1 = some (fy_J k) := by decide +kernel
theorem fi_J : ∀ w ∈ u_ws cn_J ft_J 7, w ∈ am_Tg := by
  intro w hw
  obtain ⟨k, hk, rfl⟩ := List.mem_map.mp hw
  have hk := List.mem_range.mp hk
  rcases (show k = 0 ∨ k = 1 ∨ k = 2 ∨ k = 3 ∨ k = 4 ∨ k = 5 ∨ k = 6 by omega) with rfl | rfl | rfl | rfl | rfl | rfl | rfl
  · exact tg 130 (by decide +kernel) (by decide +kernel)
  · exact tg 132 (by decide +kernel) (by decide +kernel)
  · exact tg 134 (by decide +kernel) (by decide +kernel)
  · exact tg 136 (by decide +kernel) (by decide +kernel)
  · exact tg 138 (by decide +kernel) (by decide +kernel)
  · exact tg 140 (by decide +kernel) (by decide +kernel)
  · exact tg 142 (by decide +kernel) (by decide +kernel)
def cn_S : String := "MailViews$Session"
def ft_S : u_T := fun k => match k with
  | 0 => ("MailViews$Session", "uids", "[I", true)
  | 1 => ("MailViews$Session", "knownFlags", "[I", true)
  | 2 => ("MailViews$Session", "noticeKinds", "[I", true)
  | 3 => ("MailViews$Session", "noticeNumbers", "[I", true)
  | 4 => ("MailViews$Session", "mailbox", "I", false)
  | 5 => ("MailViews$Session", "readOnly", "Z", false)
  | 6 => ("MailViews$Session", "length", "I", false)
  | 7 => ("MailViews$Session", "notices", "I", false)
  | _ => ("MailViews$Session", "highestUid", "I", false)
def fy_S : Nat → FieldType := fun k => match k with
  | 0 => .array .int
  | 1 => .array .int
  | 2 => .array .int
  | 3 => .array .int
  | 4 => .int
  | 5 => .boolean
  | 6 => .int
  | 7 => .int
  | _ => .int
theorem fn_S : ∀ a, a < 9 → ∀ b, b < 9 → a ≠ b → (ft_S a).2.1 ≠ (ft_S b).2.1 := by decide +kernel
theorem fo_S : ∀ k, k < 9 → parseFieldDescriptor (ft_S k).2.2.1 = some (fy_S k) := by decide +kernel
theorem fi_S : ∀ w ∈ u_ws cn_S ft_S 9, w ∈ am_Tg := by
  intro w hw
  obtain ⟨k, hk, rfl⟩ := List.mem_map.mp hw
  have hk := List.mem_range.mp hk
  rcases (show k = 0 ∨ k = 1 ∨ k = 2 ∨ k = 3 ∨ k = 4 ∨ k = 5 ∨ k = 6 ∨ k = 7 ∨ k = 8 by omega) with rfl | rfl | rfl | rfl | rfl | rfl | rfl | rfl | rfl
  · exact tg 98 (by decide +kernel) (by decide +kernel)
  · exact tg 100 (by decide +kernel) (by decide +kernel)
  · exact tg 102 (by decide +kernel) (by decide +kernel)
  · exact tg 104 (by decide +kernel) (by decide +kernel)
  · exact tg 106 (by decide +kernel) (by decide +kernel)
  · exact tg 108 (by decide +kernel) (by decide +kernel)
  · exact tg 110 (by decide +kernel) (by decide +kernel)
  · exact tg 112 (by decide +kernel) (by decide +kernel)
  · exact tg 114 (by decide +kernel) (by decide +kernel)
def cn_C : String := "MailViews$Criterion"
def ft_C : u_T := fun k => match k with
  | 0 => ("MailViews$Criterion", "ops", "[I", true)
  | 1 => ("MailViews$Criterion", "as", "[I", true)
  | 2 => ("MailViews$Criterion", "bs", "[I", true)
  | 3 => ("MailViews$Criterion", "ends", "[I", true)
  | 4 => ("MailViews$Criterion", "depths", "[I", true)
  | 5 => ("MailViews$Criterion", "holds", "[Z", true)
  | _ => ("MailViews$Criterion", "length", "I", false)
def fy_C : Nat → FieldType := fun k => match k with
  | 0 => .array .int
  | 1 => .array .int
  | 2 => .array .int
  | 3 => .array .int
  | 4 => .array .int
  | 5 => .array .boolean
  | _ => .int
theorem fn_C : ∀ a, a < 7 → ∀ b, b < 7 → a ≠ b → (ft_C a).2.1 ≠ (ft_C b).2.1 := by decide +kernel
theorem fo_C : ∀ k, k < 7 → parseFieldDescriptor (ft_C k).2.2.1 = some (fy_C k) := by decide +kernel
theorem fi_C : ∀ w ∈ u_ws cn_C ft_C 7, w ∈ am_Tg := by
  intro w hw
  obtain ⟨k, hk, rfl⟩ := List.mem_map.mp hw
  have hk := List.mem_range.mp hk
  rcases (show k = 0 ∨ k = 1 ∨ k = 2 ∨ k = 3 ∨ k = 4 ∨ k = 5 ∨ k = 6 by omega) with rfl | rfl | rfl | rfl | rfl | rfl | rfl
  · exact tg 158 (by decide +kernel) (by decide +kernel)
  · exact tg 160 (by decide +kernel) (by decide +kernel)
  · exact tg 162 (by decide +kernel) (by decide +kernel)
  · exact tg 164 (by decide +kernel) (by decide +kernel)
  · exact tg 166 (by decide +kernel) (by decide +kernel)
  · exact tg 168 (by decide +kernel) (by decide +kernel)
  · exact tg 170 (by decide +kernel) (by decide +kernel)
def cn_M : String := "MailViewsModel"
def ft_M : u_T := fun k => match k with
  | 0 => ("MailViewsModel", "changes", "I", false)
  | 1 => ("MailViewsModel", "durable", "I", false)
  | 2 => ("MailViewsModel", "change", "[I", true)
  | 3 => ("MailViewsModel", "many", "[I", true)
  | 4 => ("MailViewsModel", "message", "[I", true)
  | 5 => ("MailViewsModel", "next", "[I", true)
  | 6 => ("MailViewsModel", "validity", "[I", true)
  | 7 => ("MailViewsModel", "box", "[I", true)
  | 8 => ("MailViewsModel", "readOnly", "[Z", true)
  | 9 => ("MailViewsModel", "length", "[I", true)
  | 10 => ("MailViewsModel", "uid", "[I", true)
  | 11 => ("MailViewsModel", "known", "[I", true)
  | 12 => ("MailViewsModel", "top", "[I", true)
  | 13 => ("MailViewsModel", "told", "[I", true)
  | 14 => ("MailViewsModel", "notice", "[I", true)
  | 15 => ("MailViewsModel", "tokens", "I", false)
  | 16 => ("MailViewsModel", "token", "[I", true)
  | 17 => ("MailViewsModel", "found", "I", false)
  | 18 => ("MailViewsModel", "numbers", "[I", true)
  | 19 => ("MailViewsModel", "stack", "[Z", true)
  | _ => ("MailViewsModel", "open", "[I", true)
def fy_M : Nat → FieldType := fun k => match k with
  | 0 => .int
  | 1 => .int
  | 2 => .array .int
  | 3 => .array .int
  | 4 => .array .int
  | 5 => .array .int
  | 6 => .array .int
  | 7 => .array .int
  | 8 => .array .boolean
  | 9 => .array .int
  | 10 => .array .int
  | 11 => .array .int
  | 12 => .array .int
  | 13 => .array .int
  | 14 => .array .int
  | 15 => .int
  | 16 => .array .int
  | 17 => .int
  | 18 => .array .int
  | 19 => .array .boolean
  | _ => .array .int
theorem fn_M : ∀ a, a < 21 → ∀ b, b < 21 → a ≠ b → (ft_M a).2.1 ≠ (ft_M b).2.1 := by decide +kernel
theorem fo_M : ∀ k, k < 21 → parseFieldDescriptor (ft_M k).2.2.1 = some (fy_M k) := by decide +kernel
theorem fi_M : ∀ w ∈ u_ws cn_M ft_M 21, w ∈ am_Tg := by
  intro w hw
  obtain ⟨k, hk, rfl⟩ := List.mem_map.mp hw
  have hk := List.mem_range.mp hk
  rcases (show k = 0 ∨ k = 1 ∨ k = 2 ∨ k = 3 ∨ k = 4 ∨ k = 5 ∨ k = 6 ∨ k = 7 ∨ k = 8 ∨ k = 9 ∨ k = 10 ∨ k = 11 ∨ k = 12 ∨ k = 13 ∨ k = 14 ∨ k = 15 ∨ k = 16 ∨ k = 17 ∨ k = 18 ∨ k = 19 ∨ k = 20 by omega) with rfl | rfl | rfl | rfl | rfl | rfl | rfl | rfl | rfl | rfl | rfl | rfl | rfl | rfl | rfl | rfl | rfl | rfl | rfl | rfl | rfl
  · exact tg 573 (by decide +kernel) (by decide +kernel)
  · exact tg 575 (by decide +kernel) (by decide +kernel)
  · exact tg 577 (by decide +kernel) (by decide +kernel)
  · exact tg 579 (by decide +kernel) (by decide +kernel)
  · exact tg 581 (by decide +kernel) (by decide +kernel)
  · exact tg 583 (by decide +kernel) (by decide +kernel)
  · exact tg 585 (by decide +kernel) (by decide +kernel)
  · exact tg 587 (by decide +kernel) (by decide +kernel)
  · exact tg 589 (by decide +kernel) (by decide +kernel)
  · exact tg 591 (by decide +kernel) (by decide +kernel)
  · exact tg 593 (by decide +kernel) (by decide +kernel)
  · exact tg 595 (by decide +kernel) (by decide +kernel)
  · exact tg 597 (by decide +kernel) (by decide +kernel)
  · exact tg 599 (by decide +kernel) (by decide +kernel)
  · exact tg 601 (by decide +kernel) (by decide +kernel)
  · exact tg 603 (by decide +kernel) (by decide +kernel)
  · exact tg 605 (by decide +kernel) (by decide +kernel)
  · exact tg 607 (by decide +kernel) (by decide +kernel)
  · exact tg 609 (by decide +kernel) (by decide +kernel)
  · exact tg 611 (by decide +kernel) (by decide +kernel)
  · exact tg 613 (by decide +kernel) (by decide +kernel)
abbrev mv_cl : List vw_C := [(cn_V, ft_V, 6), (cn_B, ft_B, 6), (cn_J, ft_J, 7), (cn_S, ft_S, 9), (cn_C, ft_C, 7), (cn_M, ft_M, 21)]
abbrev am_kd : List FieldType := [.int, .boolean, .object "MailViews$Mailbox", .object "MailViews$Session"]
abbrev am_nw : List Cond := [Cond.arrayOver (FieldType.object "MailViews$Mailbox"), Cond.methodLinkNest "MailViews" 15 ⟨"MailViews$Mailbox", "<init>", "()V"⟩ "MailViews", Cond.arrayOver (FieldType.object "MailViews$Session"), Cond.methodLinkNest "MailViews" 22 ⟨"MailViews$Session", "<init>", "()V"⟩ "MailViews", Cond.methodLinkNest "MailViews" 25 ⟨"MailViews$Journal", "<init>", "()V"⟩ "MailViews", Cond.methodLinkNest "MailViews" 32 ⟨"MailViews$Criterion", "<init>", "()V"⟩ "MailViews"]
theorem nw_0 : Cond.arrayOver (FieldType.object "MailViews$Mailbox") ∈ am_nw := List.mem_of_getElem? (i := 0) rfl
theorem nw_1 : Cond.methodLinkNest "MailViews" 15 ⟨"MailViews$Mailbox", "<init>", "()V"⟩ "MailViews" ∈ am_nw := List.mem_of_getElem? (i := 1) rfl
theorem nw_2 : Cond.arrayOver (FieldType.object "MailViews$Session") ∈ am_nw := List.mem_of_getElem? (i := 2) rfl
theorem nw_3 : Cond.methodLinkNest "MailViews" 22 ⟨"MailViews$Session", "<init>", "()V"⟩ "MailViews" ∈ am_nw := List.mem_of_getElem? (i := 3) rfl
theorem nw_4 : Cond.methodLinkNest "MailViews" 25 ⟨"MailViews$Journal", "<init>", "()V"⟩ "MailViews" ∈ am_nw := List.mem_of_getElem? (i := 4) rfl
theorem nw_5 : Cond.methodLinkNest "MailViews" 32 ⟨"MailViews$Criterion", "<init>", "()V"⟩ "MailViews" ∈ am_nw := List.mem_of_getElem? (i := 5) rfl
theorem am_nw_in : ∀ w ∈ am_nw, w ∈ lw_tbl := by
  intro w hw
  rcases (by simpa [am_nw] using hw : w = Cond.arrayOver (FieldType.object "MailViews$Mailbox") ∨ w = Cond.methodLinkNest "MailViews" 15 ⟨"MailViews$Mailbox", "<init>", "()V"⟩ "MailViews" ∨ w = Cond.arrayOver (FieldType.object "MailViews$Session") ∨ w = Cond.methodLinkNest "MailViews" 22 ⟨"MailViews$Session", "<init>", "()V"⟩ "MailViews" ∨ w = Cond.methodLinkNest "MailViews" 25 ⟨"MailViews$Journal", "<init>", "()V"⟩ "MailViews" ∨ w = Cond.methodLinkNest "MailViews" 32 ⟨"MailViews$Criterion", "<init>", "()V"⟩ "MailViews") with rfl | rfl | rfl | rfl | rfl | rfl
  · exact List.mem_of_getElem? (i := 56) (by decide +kernel)
  · exact List.mem_of_getElem? (i := 58) (by decide +kernel)
  · exact List.mem_of_getElem? (i := 83) (by decide +kernel)
  · exact List.mem_of_getElem? (i := 85) (by decide +kernel)
  · exact List.mem_of_getElem? (i := 119) (by decide +kernel)
  · exact List.mem_of_getElem? (i := 147) (by decide +kernel)
abbrev am_En (D : va_G) (dA : Nat → ClassId) (h b L : Nat) (xs : Nat → Int32) : am_E := (D, mv_cl, am_kd, dA, am_nw, am_Tg, h, b, L, xs)
theorem fz_V {E : am_E} : ∀ j, j < 6 → defaultValue (fy_V j) = vp_V (([.inr none, .inr none, .inr none, .inr none, .inr none, .inl 0] : List am_V).map (am_cv E)) j := by
  intro j hj
  rcases (show j = 0 ∨ j = 1 ∨ j = 2 ∨ j = 3 ∨ j = 4 ∨ j = 5 by omega) with rfl | rfl | rfl | rfl | rfl | rfl <;> rfl
theorem fw_V : am_wS ([.inr none, .inr none, .inr none, .inr none, .inr none, .inl 0] : List am_V) := by
  intro v hv
  simp only [List.mem_cons, List.not_mem_nil, or_false] at hv
  rcases hv with rfl | rfl | rfl | rfl | rfl | rfl <;> first | exact trivial | exact am_ok0
theorem fz_B {E : am_E} : ∀ j, j < 6 → defaultValue (fy_B j) = vp_V (([.inr none, .inr none, .inr none, .inl 0, .inl 0, .inl 0] : List am_V).map (am_cv E)) j := by
  intro j hj
  rcases (show j = 0 ∨ j = 1 ∨ j = 2 ∨ j = 3 ∨ j = 4 ∨ j = 5 by omega) with rfl | rfl | rfl | rfl | rfl | rfl <;> rfl
theorem fw_B : am_wS ([.inr none, .inr none, .inr none, .inl 0, .inl 0, .inl 0] : List am_V) := by
  intro v hv
  simp only [List.mem_cons, List.not_mem_nil, or_false] at hv
  rcases hv with rfl | rfl | rfl | rfl | rfl | rfl <;> first | exact trivial | exact am_ok0
theorem fz_J {E : am_E} : ∀ j, j < 7 → defaultValue (fy_J j) = vp_V (([.inr none, .inr none, .inr none, .inr none, .inr none, .inl 0, .inl 0] : List am_V).map (am_cv E)) j := by
  intro j hj
  rcases (show j = 0 ∨ j = 1 ∨ j = 2 ∨ j = 3 ∨ j = 4 ∨ j = 5 ∨ j = 6 by omega) with rfl | rfl | rfl | rfl | rfl | rfl | rfl <;> rfl
theorem fw_J : am_wS ([.inr none, .inr none, .inr none, .inr none, .inr none, .inl 0, .inl 0] : List am_V) := by
  intro v hv
  simp only [List.mem_cons, List.not_mem_nil, or_false] at hv
  rcases hv with rfl | rfl | rfl | rfl | rfl | rfl | rfl <;> first | exact trivial | exact am_ok0
theorem fz_S {E : am_E} : ∀ j, j < 9 → defaultValue (fy_S j) = vp_V (([.inr none, .inr none, .inr none, .inr none, .inl 0, .inl 0, .inl 0, .inl 0, .inl 0] : List am_V).map (am_cv E)) j := by
  intro j hj
  rcases (show j = 0 ∨ j = 1 ∨ j = 2 ∨ j = 3 ∨ j = 4 ∨ j = 5 ∨ j = 6 ∨ j = 7 ∨ j = 8 by omega) with rfl | rfl | rfl | rfl | rfl | rfl | rfl | rfl | rfl <;> rfl
theorem fw_S : am_wS ([.inr none, .inr none, .inr none, .inr none, .inl 0, .inl 0, .inl 0, .inl 0, .inl 0] : List am_V) := by
  intro v hv
  simp only [List.mem_cons, List.not_mem_nil, or_false] at hv
  rcases hv with rfl | rfl | rfl | rfl | rfl | rfl | rfl | rfl | rfl <;> first | exact trivial | exact am_ok0
theorem fz_C {E : am_E} : ∀ j, j < 7 → defaultValue (fy_C j) = vp_V (([.inr none, .inr none, .inr none, .inr none, .inr none, .inr none, .inl 0] : List am_V).map (am_cv E)) j := by
  intro j hj
  rcases (show j = 0 ∨ j = 1 ∨ j = 2 ∨ j = 3 ∨ j = 4 ∨ j = 5 ∨ j = 6 by omega) with rfl | rfl | rfl | rfl | rfl | rfl | rfl <;> rfl
theorem fw_C : am_wS ([.inr none, .inr none, .inr none, .inr none, .inr none, .inr none, .inl 0] : List am_V) := by
  intro v hv
  simp only [List.mem_cons, List.not_mem_nil, or_false] at hv
  rcases hv with rfl | rfl | rfl | rfl | rfl | rfl | rfl <;> first | exact trivial | exact am_ok0
theorem fz_M {E : am_E} : ∀ j, j < 21 → defaultValue (fy_M j) = vp_V (([.inl 0, .inl 0, .inr none, .inr none, .inr none, .inr none, .inr none, .inr none, .inr none, .inr none, .inr none, .inr none, .inr none, .inr none, .inr none, .inl 0, .inr none, .inl 0, .inr none, .inr none, .inr none] : List am_V).map (am_cv E)) j := by
  intro j hj
  rcases (show j = 0 ∨ j = 1 ∨ j = 2 ∨ j = 3 ∨ j = 4 ∨ j = 5 ∨ j = 6 ∨ j = 7 ∨ j = 8 ∨ j = 9 ∨ j = 10 ∨ j = 11 ∨ j = 12 ∨ j = 13 ∨ j = 14 ∨ j = 15 ∨ j = 16 ∨ j = 17 ∨ j = 18 ∨ j = 19 ∨ j = 20 by omega) with rfl | rfl | rfl | rfl | rfl | rfl | rfl | rfl | rfl | rfl | rfl | rfl | rfl | rfl | rfl | rfl | rfl | rfl | rfl | rfl | rfl <;> rfl
theorem fw_M : am_wS ([.inl 0, .inl 0, .inr none, .inr none, .inr none, .inr none, .inr none, .inr none, .inr none, .inr none, .inr none, .inr none, .inr none, .inr none, .inr none, .inl 0, .inr none, .inl 0, .inr none, .inr none, .inr none] : List am_V) := by
  intro v hv
  simp only [List.mem_cons, List.not_mem_nil, or_false] at hv
  rcases hv with rfl | rfl | rfl | rfl | rfl | rfl | rfl | rfl | rfl | rfl | rfl | rfl | rfl | rfl | rfl | rfl | rfl | rfl | rfl | rfl | rfl <;> first | exact trivial | exact am_ok0
theorem am_tsc {pc t0 : Nat} {offs : Array Int} {ts : List Nat} (h : ((List.range ts.length).all (fun i => match offs[i]? with | some o => decide ((pc : Int) + o = ((ts.getD i t0 : Nat) : Int)) | none => false)) = true) : ∀ i, i < ts.length → ∃ o, offs[i]? = some o ∧ (pc : Int) + o = ((ts.getD i t0 : Nat) : Int) := by
  intro i hi
  have h1 := List.all_eq_true.mp h i (List.mem_range.mpr hi)
  split at h1
  · next o ho => exact ⟨o, ho, by simpa using h1⟩
  · cases h1
